section
theorem pk_us {f : Nat → Int32} {k : Nat} {x : Int32} : upd f k x k = x := if_pos rfl
theorem pk_un {f : Nat → Int32} {k j : Nat} {x : Int32} (h : j ≠ k) : upd f k x j = f j := if_neg h
theorem pk_sub {a b : Nat} (h : b ≤ a) : nI a - nI b = nI (a - b) := by
  obtain ⟨c, rfl⟩ : ∃ c, a = c + b := ⟨a - b, by omega⟩
  rw [← nI_add, Int32.add_sub_cancel, Nat.add_sub_cancel]
theorem pk_m1 (n : Nat) : nI (n + 1) + (-1) = nI n := by
  rw [← nI_1, Int32.add_assoc, show (1 : Int32) + (-1) = 0 from rfl, Int32.add_zero]
theorem pk_mul (a b : Nat) : nI a * nI b = nI (a * b) := (Int32.ofNat_mul a b).symm
theorem pk_div {a d : Nat} (ha : a < 2 ^ 31) (h0 : 0 < d) (hd : d < 2 ^ 31) : nI a / nI d = nI (a / d) := by
  apply Int32.toInt_inj.mp
  rw [lg_idiv_nonneg (by rw [nI_toInt ha]; omega) (by rw [nI_toInt hd]; omega), nI_toInt ha, nI_toInt hd, nI_toInt (Nat.lt_of_le_of_lt (Nat.div_le_self a d) ha)]
  first | rfl | exact (Int.natCast_ediv _ _).symm
theorem pk_rem {a d : Nat} (ha : a < 2 ^ 31) (h0 : 0 < d) (hd : d < 2 ^ 31) : nI a - nI a / nI d * nI d = nI (a % d) := by
  rw [pk_div ha h0 hd, pk_mul, pk_sub (Nat.div_mul_le_self a d)]
  exact congrArg nI (by have := Nat.div_add_mod' a d; omega)
theorem pk_sub_toInt {a b : Nat} (ha : a < 2 ^ 30) (hb : b < 2 ^ 30) : (nI a - nI b).toInt = (a : Int) - b := by
  rw [Int32.toInt_sub, nI_toInt (by omega), nI_toInt (by omega)]
  exact Int.bmod_eq_of_le (by omega) (by omega)
theorem pk_sneg {a b : Nat} (hb : b < 2 ^ 30) (h : a < b) : nI a - nI b < 0 := by
  rw [Int32.lt_iff_toInt_lt, pk_sub_toInt (by omega) hb, show (0 : Int32).toInt = 0 from by decide]
  omega
theorem pk_ix (x : Int32) {n : Nat} (hn : n < 2 ^ 31) : x < 0 ∨ nI n ≤ x ∨ ∃ j : Nat, j < n ∧ x = nI j := by
  by_cases h : x < 0
  · exact Or.inl h
  · obtain ⟨j, hj, rfl⟩ := nI_of h
    by_cases h2 : j < n
    · exact Or.inr (Or.inr ⟨j, h2, rfl⟩)
    · exact Or.inr (Or.inl (nI_le (by omega) hj))
theorem pk_le {x y : Int32} {A B : Prop} (a b : Nat) (f : a ≤ b → A) (g : b < a → B) (hx : x = nI a := by rfl) (hy : y = nI b := by rfl) (ha : a < 2 ^ 31 := by omega) (hb : b < 2 ^ 31 := by omega) : (x ≤ y → A) ∧ (¬ x ≤ y → B) := by
  subst hx hy
  rw [nI_leI ha hb]
  exact ⟨f, fun z => g (by omega)⟩
theorem pk_lt {x y : Int32} {A B : Prop} (a b : Nat) (f : a < b → A) (g : b ≤ a → B) (hx : x = nI a := by rfl) (hy : y = nI b := by rfl) (ha : a < 2 ^ 31 := by omega) (hb : b < 2 ^ 31 := by omega) : (x < y → A) ∧ (¬ x < y → B) := by
  subst hx hy
  rw [nI_ltI ha hb]
  exact ⟨f, fun z => g (by omega)⟩
theorem pk_eq {x y : Int32} {A B : Prop} (a b : Nat) (f : a = b → A) (g : a ≠ b → B) (hx : x = nI a := by rfl) (hy : y = nI b := by rfl) (ha : a < 2 ^ 31 := by omega) (hb : b < 2 ^ 31 := by omega) : (x = y → A) ∧ (¬ x = y → B) := by
  subst hx hy
  rw [nI_eq ha hb]
  exact ⟨f, g⟩
theorem pk_in {x : Int32} (n N : Nat) (h : n < N) (hx : x = nI n := by rfl) (hN : N < 2 ^ 31 := by omega) : vp_in x N := by
  subst hx
  exact vp_in_nI h hN
theorem pk_cl {x : Int32} (n : Nat) (hx : x = nI n := by rfl) (h : n < 2 ^ 31 := by omega) : x.toNatClampNeg = n := by
  subst hx
  exact nI_clamp h
theorem pk_tn {n : Nat} (h : n < 2 ^ 32) : (nI n).toBitVec.toNat = n := Nat.mod_eq_of_lt h
theorem pk_and (x : Int32) {m : Int32} (k : Nat) (hm : m.toBitVec.toNat = 2 ^ k - 1) : x &&& m = nI (x.toBitVec.toNat % 2 ^ k) := by
  apply Int32.toBitVec_inj.mp
  apply BitVec.eq_of_toNat_eq
  rw [Int32.toBitVec_and, BitVec.toNat_and, hm, Nat.and_two_pow_sub_one_eq_mod]
  show _ = (BitVec.ofNat 32 _).toNat
  rw [BitVec.toNat_ofNat]
  exact (Nat.mod_eq_of_lt (Nat.lt_of_le_of_lt (Nat.mod_le _ _) x.toBitVec.isLt)).symm
theorem pk_andN {n : Nat} (h : n < 2 ^ 32) {m : Int32} (k : Nat) (hm : m.toBitVec.toNat = 2 ^ k - 1) : nI n &&& m = nI (n % 2 ^ k) := by
  rw [pk_and _ k hm, pk_tn h]
theorem pk_andE (x : Int32) {m : Int32} (k : Nat) (hm : m.toBitVec.toNat = 2 ^ k - 1) : ∃ j : Nat, j < 2 ^ k ∧ x &&& m = nI j := ⟨_, Nat.mod_lt _ (Nat.two_pow_pos k), pk_and x k hm⟩
theorem pk_andIn (x : Int32) {m : Int32} (k : Nat) (hm : m.toBitVec.toNat = 2 ^ k - 1) (hk : k ≤ 30) : vp_in (x &&& m) (2 ^ k) := by
  obtain ⟨j, hj, e⟩ := pk_andE x k hm
  rw [e]
  exact vp_in_nI hj (Nat.lt_of_le_of_lt (Nat.pow_le_pow_right (by decide) hk) (by decide))
theorem pk_shl (a s : Int32) (k : Nat) (hs : (s.toBitVec.smod 32).toNat = k) : (a <<< s).toBitVec.toNat = a.toBitVec.toNat * 2 ^ k % 2 ^ 32 := by
  show (a.toBitVec <<< (s.toBitVec.smod 32).toNat).toNat = _
  rw [hs, BitVec.toNat_shiftLeft, Nat.shiftLeft_eq]
theorem pk_shlN {n : Nat} (s : Int32) (k : Nat) (hs : (s.toBitVec.smod 32).toNat = k) (h : n * 2 ^ k < 2 ^ 32) : nI n <<< s = nI (n * 2 ^ k) := by
  apply Int32.toBitVec_inj.mp
  apply BitVec.eq_of_toNat_eq
  have hn : n < 2 ^ 32 := Nat.lt_of_le_of_lt (Nat.le_mul_of_pos_right n (Nat.two_pow_pos k)) h
  rw [pk_shl _ _ k hs, pk_tn hn, pk_tn h, Nat.mod_eq_of_lt h]
theorem pk_shr (a s : Int32) (k : Nat) (hs : (s.toBitVec.smod 32).toNat = k) : (a >>> s).toInt = a.toInt >>> k := by
  show (a.toBitVec.sshiftRight (s.toBitVec.smod 32).toNat).toInt = _
  rw [hs, BitVec.toInt_sshiftRight]
  rfl
theorem pk_shrN {n : Nat} (h : n < 2 ^ 31) (s : Int32) (k : Nat) (hs : (s.toBitVec.smod 32).toNat = k) : nI n >>> s = nI (n / 2 ^ k) := by
  apply Int32.toInt_inj.mp
  have h2 : n / 2 ^ k ≤ n := Nat.div_le_self _ _
  rw [pk_shr _ _ k hs, nI_toInt h, nI_toInt (by omega), Int.shiftRight_eq_div_pow]
  rfl
theorem ek_if {c d A B : Prop} (e : c ↔ d) (f : d → A) (g : ¬ d → B) : (c → A) ∧ (¬ c → B) :=
  ⟨fun z => f (e.mp z), fun z => g (fun y => z (e.mpr y))⟩
theorem ek_v {α : Sort _} {P : α → Prop} {a b : α} (e : a = b) (h : P b) : P a := e ▸ h
theorem sb_m1 {p : Nat} (h : 0 < p) : nI p + (-1) = nI (p - 1) := by
  obtain ⟨q, rfl⟩ : ∃ q, p = q + 1 := ⟨p - 1, by omega⟩
  exact pk_m1 q
end
section
/-! cells, counts, lists of numbers: pure -/
def ch_bI (x : Bool) : Int32 := if x then 1 else 0
theorem ch_bI_t : ch_bI true = 1 := rfl
theorem ch_bI_f : ch_bI false = 0 := rfl
theorem ch_bI_0 {x : Bool} : ch_bI x = 0 ↔ x = false := by cases x <;> decide
def ch_ok (c : Int32) : Prop := c = 0 ∨ c = 1 ∨ c = 2 ∨ c = 3 ∨ c = 4 ∨ c = 5 ∨ c = 6 ∨ c = 9 ∨ c = 10 ∨ c = 11 ∨ c = 12 ∨ c = 13 ∨ c = 14
theorem ch_okE {P : Int32 → Prop} {c : Int32} (h : ch_ok c) (h0 : P 0) (h1 : P 1) (h2 : P 2) (h3 : P 3) (h4 : P 4) (h5 : P 5) (h6 : P 6) (h9 : P 9) (h10 : P 10) (h11 : P 11) (h12 : P 12) (h13 : P 13) (h14 : P 14) : P c := by
  rcases h with h | h | h | h | h | h | h | h | h | h | h | h | h <;> subst h <;> assumption
/-- the kind of a piece -/
def ch_kd (c : Int32) : Int32 := if 8 < c then c - 8 else c
/-- a piece of the side s -/
def ch_ow (c : Int32) (s : Nat) : Bool := if s = 0 then (!decide (c = 0) && decide (c < 8)) else decide (8 < c)
def ch_sd (c : Int32) : Nat := if c < 8 then 0 else 1
def ch_kg (s : Nat) : Int32 := if s = 0 then 6 else 14
def ch_ot (s : Nat) : Nat := 1 - s
theorem ch_ow_0 (s : Nat) : ch_ow 0 s = false := by
  unfold ch_ow; split <;> decide
theorem ch_ow_sd {c : Int32} {s : Nat} (hs : s < 2) (h : ch_ow c s = true) : ch_sd c = s := by
  have h2 : s = 0 ∨ s = 1 := by omega
  rcases h2 with rfl | rfl
  · simp [ch_ow] at h; simp [ch_sd, h.2]
  · simp only [ch_ow, if_neg (show ¬ (1 : Nat) = 0 by decide), decide_eq_true_eq] at h
    have : ¬ c < 8 := fun q => Int32.lt_irrefl (Int32.lt_trans h q)
    simp [ch_sd, this]
theorem ch_ow_ne {c : Int32} {s : Nat} (h : ch_ow c s = true) : ¬ c = 0 := by
  intro e; rw [e, ch_ow_0] at h; cases h
theorem ch_ow_not {c : Int32} (h : ch_ow c 0 = true) : ch_ow c 1 = false := by
  cases h1 : ch_ow c 1 with
  | false => rfl
  | true => exact absurd ((ch_ow_sd (by decide) h).symm.trans (ch_ow_sd (by decide) h1)) (by decide)
/-- how many i below n -/
def ch_ct (p : Nat → Bool) : Nat → Nat
  | 0 => 0
  | n + 1 => ch_ct p n + (if p n then 1 else 0)
theorem ch_ct_t {p : Nat → Bool} {n : Nat} (h : p n = true) : ch_ct p (n + 1) = ch_ct p n + 1 := by simp [ch_ct, h]
theorem ch_ct_f {p : Nat → Bool} {n : Nat} (h : p n = false) : ch_ct p (n + 1) = ch_ct p n := by simp [ch_ct, h]
theorem ch_ct_le (p : Nat → Bool) (n : Nat) : ch_ct p n ≤ n := by
  induction n with
  | zero => exact Nat.le_refl 0
  | succ n ih => simp only [ch_ct]; split <;> omega
theorem ch_ct_mono {p q : Nat → Bool} {n : Nat} (h : ∀ i, i < n → p i = true → q i = true) : ch_ct p n ≤ ch_ct q n := by
  induction n with
  | zero => exact Nat.le_refl 0
  | succ n ih =>
    have h1 := ih fun i hi => h i (by omega)
    have h2 := h n (by omega)
    simp only [ch_ct]
    cases hp : p n with
    | false => simp; omega
    | true => simp [h2 hp]; omega
theorem ch_ct_congr {p q : Nat → Bool} {n : Nat} (h : ∀ i, i < n → p i = q i) : ch_ct p n = ch_ct q n := by
  induction n with
  | zero => rfl
  | succ n ih => simp only [ch_ct]; rw [ih fun i hi => h i (by omega), h n (by omega)]
theorem ch_ct_0 {p : Nat → Bool} {n : Nat} (h : ∀ i, i < n → p i = false) : ch_ct p n = 0 := by
  induction n with
  | zero => rfl
  | succ n ih => rw [ch_ct_f (h n (by omega)), ih fun i hi => h i (by omega)]
theorem ch_ct_pos {p : Nat → Bool} {n : Nat} : 0 < ch_ct p n ↔ ∃ i, i < n ∧ p i = true := by
  induction n with
  | zero => exact ⟨fun h => absurd h (Nat.lt_irrefl 0), fun ⟨i, hi, _⟩ => absurd hi (Nat.not_lt_zero i)⟩
  | succ n ih =>
    cases hp : p n with
    | true =>
      rw [ch_ct_t hp]
      exact ⟨fun _ => ⟨n, by omega, hp⟩, fun _ => by omega⟩
    | false =>
      rw [ch_ct_f hp, ih]
      constructor
      · rintro ⟨i, hi, h⟩; exact ⟨i, by omega, h⟩
      · rintro ⟨i, hi, h⟩
        have : i ≠ n := by intro e; rw [e, hp] at h; cases h
        exact ⟨i, by omega, h⟩
theorem ch_ct_one {p : Nat → Bool} {n i j : Nat} (h : ch_ct p n ≤ 1) (hi : i < n) (hj : j < n) (pi : p i = true) (pj : p j = true) : i = j := by
  induction n with
  | zero => omega
  | succ n ih =>
    by_cases e1 : i = n
    · by_cases e2 : j = n
      · omega
      · exfalso
        have : 0 < ch_ct p n := ch_ct_pos.mpr ⟨j, by omega, pj⟩
        rw [ch_ct_t (e1 ▸ pi)] at h
        omega
    · by_cases e2 : j = n
      · exfalso
        have : 0 < ch_ct p n := ch_ct_pos.mpr ⟨i, by omega, pi⟩
        rw [ch_ct_t (e2 ▸ pj)] at h
        omega
      · refine ih ?_ (by omega) (by omega)
        simp only [ch_ct] at h
        omega
theorem ch_ct_upd (p : Nat → Bool) (k : Nat) (v : Bool) (n : Nat) (hk : k < n) : ch_ct (fun i => if i = k then v else p i) n + (if p k then 1 else 0) = ch_ct p n + (if v then 1 else 0) := by
  induction n with
  | zero => omega
  | succ n ih =>
    by_cases e : k = n
    · have h1 : ch_ct (fun i => if i = k then v else p i) n = ch_ct p n := ch_ct_congr fun i hi => if_neg (by omega)
      simp only [ch_ct, h1, if_pos e.symm]
      rw [e]
      omega
    · have h1 := ih (by omega)
      simp only [ch_ct, if_neg (show ¬ n = k from fun z => e z.symm)]
      omega
theorem ch_ct_add (p q r : Nat → Bool) (n : Nat) (h : ∀ i, i < n → (p i = true → r i = true) ∧ (q i = true → r i = true) ∧ (p i = true → q i = false)) : ch_ct p n + ch_ct q n ≤ ch_ct r n := by
  induction n with
  | zero => exact Nat.le_refl 0
  | succ n ih =>
    have h1 := ih fun i hi => h i (by omega)
    obtain ⟨a, b, c⟩ := h n (by omega)
    simp only [ch_ct]
    cases hp : p n with
    | true => simp [a hp, c hp]; omega
    | false =>
      cases hq : q n with
      | true => simp [b hq]; omega
      | false => simp; omega
/-- the numbers from q on, below 1296, that g has -/
def ch_rm (g : Nat → Bool) : Nat → Nat → List Nat
  | 0, _ => []
  | n + 1, q => if g q then q :: ch_rm g n (q + 1) else ch_rm g n (q + 1)
def ch_Rl (g : Nat → Bool) (q : Nat) : List Nat := ch_rm g (1296 - q) q
theorem ch_Re {g : Nat → Bool} {q : Nat} (h : 1296 ≤ q) : ch_Rl g q = [] := by
  unfold ch_Rl
  rw [show 1296 - q = 0 by omega]
  rfl
theorem ch_Rt {g : Nat → Bool} {q : Nat} (h : q < 1296) (hg : g q = true) : ch_Rl g q = q :: ch_Rl g (q + 1) := by
  unfold ch_Rl
  obtain ⟨m, hm⟩ : ∃ m, 1296 - q = m + 1 := ⟨1295 - q, by omega⟩
  rw [hm, show 1296 - (q + 1) = m by omega]
  simp [ch_rm, hg]
theorem ch_Rf {g : Nat → Bool} {q : Nat} (h : q < 1296) (hg : g q = false) : ch_Rl g q = ch_Rl g (q + 1) := by
  unfold ch_Rl
  obtain ⟨m, hm⟩ : ∃ m, 1296 - q = m + 1 := ⟨1295 - q, by omega⟩
  rw [hm, show 1296 - (q + 1) = m by omega]
  simp [ch_rm, hg]
theorem ch_Rskip {g : Nat → Bool} {q p : Nat} (hq : q ≤ p) (hp : p ≤ 1296) (h : ∀ j, q ≤ j → j < p → g j = false) : ch_Rl g q = ch_Rl g p := by
  obtain ⟨m, rfl⟩ : ∃ m, p = q + m := ⟨p - q, by omega⟩
  induction m with
  | zero => rfl
  | succ m ih =>
    rw [ih (by omega) (by omega) (fun j a b => h j a (by omega)), ch_Rf (by omega) (h (q + m) (by omega) (by omega))]
    rfl
theorem ch_Rcons {g : Nat → Bool} : ∀ (m q : Nat), 1296 - q = m → ∀ p r, ch_Rl g q = p :: r → q ≤ p ∧ p < 1296 ∧ g p = true ∧ r = ch_Rl g (p + 1) ∧ ∀ j, q ≤ j → j < p → g j = false := by
  intro m
  induction m with
  | zero =>
    intro q hq p r h
    rw [ch_Re (by omega)] at h
    cases h
  | succ m ih =>
    intro q hq p r h
    cases hg : g q with
    | true =>
      rw [ch_Rt (by omega) hg] at h
      cases h
      exact ⟨Nat.le_refl q, by omega, hg, rfl, fun j a b => by omega⟩
    | false =>
      rw [ch_Rf (by omega) hg] at h
      obtain ⟨a, b, c, d, e⟩ := ih (q + 1) (by omega) p r h
      refine ⟨by omega, b, c, d, fun j hj hp => ?_⟩
      by_cases ej : j = q
      · rw [ej]; exact hg
      · exact e j (by omega) hp
theorem ch_Rnil {g : Nat → Bool} : ∀ (m q : Nat), 1296 - q = m → ch_Rl g q = [] → ∀ j, q ≤ j → j < 1296 → g j = false := by
  intro m
  induction m with
  | zero => intro q hq _ j a b; omega
  | succ m ih =>
    intro q hq h j a b
    cases hg : g q with
    | true => rw [ch_Rt (by omega) hg] at h; cases h
    | false =>
      rw [ch_Rf (by omega) hg] at h
      by_cases ej : j = q
      · rw [ej]; exact hg
      · exact ih (q + 1) (by omega) h j (by omega) b
theorem ch_Rmem {g : Nat → Bool} {p : Nat} : ∀ (m q : Nat), 1296 - q = m → p ∈ ch_Rl g q → q ≤ p ∧ p < 1296 ∧ g p = true := by
  intro m
  induction m with
  | zero => intro q hq h; rw [ch_Re (by omega)] at h; cases h
  | succ m ih =>
    intro q hq h
    cases hg : g q with
    | true =>
      rw [ch_Rt (by omega) hg] at h
      rcases List.mem_cons.mp h with e | e
      · rw [e]; exact ⟨Nat.le_refl q, by omega, hg⟩
      · obtain ⟨a, b, c⟩ := ih (q + 1) (by omega) e
        exact ⟨by omega, b, c⟩
    | false =>
      rw [ch_Rf (by omega) hg] at h
      obtain ⟨a, b, c⟩ := ih (q + 1) (by omega) h
      exact ⟨by omega, b, c⟩
theorem ch_Rlen {g : Nat → Bool} : ∀ (m q : Nat), q + m = 1296 → ch_ct g q + (ch_Rl g q).length = ch_ct g 1296 := by
  intro m
  induction m with
  | zero =>
    intro q hq
    rw [ch_Re (by omega), show q = 1296 by omega]
    rfl
  | succ m ih =>
    intro q hq
    have h := ih (q + 1) (by omega)
    cases hg : g q with
    | true => rw [ch_Rt (by omega) hg]; rw [ch_ct_t hg] at h; simp only [List.length_cons]; omega
    | false => rw [ch_Rf (by omega) hg]; rw [ch_ct_f hg] at h; exact h
theorem ch_Rlen0 (g : Nat → Bool) : (ch_Rl g 0).length = ch_ct g 1296 := by
  have h := ch_Rlen (g := g) 1296 0 (by omega)
  rw [show ch_ct g 0 = 0 from rfl] at h
  omega
def ch_sm (v : Nat → Nat) : List Nat → Nat
  | [] => 0
  | p :: r => v p + ch_sm v r
theorem ch_sm_le {v : Nat → Nat} {M : Nat} : ∀ (l : List Nat), (∀ p, p ∈ l → v p ≤ M) → ch_sm v l ≤ l.length * M := by
  intro l
  induction l with
  | nil => intro _; exact Nat.zero_le _
  | cons p r ih =>
    intro h
    have h1 := ih fun x hx => h x (List.mem_cons_of_mem p hx)
    have h2 := h p List.mem_cons_self
    simp only [ch_sm, List.length_cons, Nat.add_mul, Nat.one_mul]
    omega
end
section
/-! the geometry of the board: rows, columns, lines; tables -/
def ch_R (f t : Nat) : Int32 := nI t / 6 - nI f / 6
def ch_C (f t : Nat) : Int32 := (nI t - nI t / 6 * 6) - (nI f - nI f / 6 * 6)
def ch_D (f t : Nat) : Int32 := ch_R f t * ch_R f t + ch_C f t * ch_C f t
def ch_sg (x : Int32) : Int32 := if 0 < x then 1 else if x < 0 then -1 else 0
def ch_ab (x : Int32) : Int32 := if x < 0 then -x else x
def ch_sp (f t : Nat) : Int32 := ch_sg (ch_R f t) * 6 + ch_sg (ch_C f t)
def ch_lI (f t : Nat) : Int32 := if ch_R f t = 0 then ch_C f t * ch_sg (ch_C f t) else ch_R f t * ch_sg (ch_R f t)
def ch_ln (f t : Nat) : Nat := (ch_lI f t).toNatClampNeg
def ch_qI (f t i : Nat) : Int32 := nI f + nI i * ch_sp f t
def ch_sq (f t i : Nat) : Nat := (ch_qI f t i).toNatClampNeg
def ch_pa (s f t : Nat) : Bool := decide (ch_R f t = (if s = 0 then 1 else -1)) && decide (ch_D f t = 2)
def ch_kn (f t : Nat) : Bool := decide (ch_D f t = 5)
def ch_kk (f t : Nat) : Bool := decide (ch_D f t = 1) || decide (ch_D f t = 2)
def ch_sr (f t : Nat) : Bool := decide (ch_R f t = 0) || decide (ch_C f t = 0)
def ch_dg (f t : Nat) : Bool := decide (ch_R f t = ch_C f t) || decide (ch_R f t = -ch_C f t)
def ch_qn (f t : Nat) : Bool := (ch_sr f t || ch_dg f t) && !decide (f = t)
/-- tables over all pairs of squares -/
theorem ch_t_ln : ∀ f, f < 36 → ∀ t, t < 36 → ch_lI f t = nI (ch_ln f t) ∧ ch_ln f t ≤ 5 ∧ (ch_ln f t = 0 → f = t) := by decide +kernel
theorem ch_t_self : ∀ f, f < 36 → ch_ln f f = 0 ∧ ch_D f f = 0 := by decide +kernel
theorem ch_t_sq : ∀ f, f < 36 → ∀ t, t < 36 → ∀ i, i < ch_ln f t → 0 ≤ (ch_qI f t i).toInt ∧ (ch_qI f t i).toInt < 36 := by decide +kernel
theorem ch_t_pa0 : ∀ f, f < 36 → ∀ t, t < 36 → ((ch_R f t = 1 ∧ ch_ab (ch_C f t) = 1) ↔ ch_pa 0 f t = true) := by decide +kernel
theorem ch_t_pa1 : ∀ f, f < 36 → ∀ t, t < 36 → ((ch_R f t = -1 ∧ ch_ab (ch_C f t) = 1) ↔ ch_pa 1 f t = true) := by decide +kernel
theorem ch_t_kn : ∀ f, f < 36 → ∀ t, t < 36 → (ch_ab (ch_R f t) * ch_ab (ch_C f t) = 2 ↔ ch_kn f t = true) := by decide +kernel
theorem ch_t_kk : ∀ f, f < 36 → ∀ t, t < 36 → f ≠ t → ((ch_ab (ch_R f t) ≤ 1 ∧ ch_ab (ch_C f t) ≤ 1) ↔ ch_kk f t = true) := by decide +kernel
theorem ch_t_dg : ∀ f, f < 36 → ∀ t, t < 36 → (ch_ab (ch_R f t) = ch_ab (ch_C f t) ↔ ch_dg f t = true) := by decide +kernel
theorem ch_t_sr : ∀ f, f < 36 → ∀ t, t < 36 → ((ch_ab (ch_R f t) = 0 ∨ ch_ab (ch_C f t) = 0) ↔ ch_sr f t = true) := by decide +kernel
theorem ch_t_to0 : ∀ f, f < 36 → ∀ t, t < 36 → ∀ i, i < 6 → (ch_qn f t = true → (ch_qI f t (i + 1) = nI t ↔ i + 1 = ch_ln f t)) := by decide +kernel
theorem ch_t_to (f : Nat) (hf : f < 36) (t : Nat) (ht : t < 36) (hq : ch_qn f t = true) (i : Nat) (hi : i < 7) (h1 : 1 ≤ i) : ch_qI f t i = nI t ↔ i = ch_ln f t := by
  obtain ⟨j, rfl⟩ : ∃ j, i = j + 1 := ⟨i - 1, by omega⟩
  exact ch_t_to0 f hf t ht j (by omega) hq
theorem ch_t_f6 : ∀ f, f < 36 → ∀ t, t < 36 → ((nI t - nI f = 6 ↔ t = f + 6) ∧ (nI t - nI f = -6 ↔ f = t + 6) ∧ (nI t = nI f + 6 ↔ t = f + 6) ∧ (nI t = nI f - 6 ↔ f = t + 6)) := by decide +kernel
theorem ch_t_q : ∀ f, f < 36 → ∀ t, t < 36 → ((t = f + 6 → ch_qn f t = true) ∧ (f = t + 6 → ch_qn f t = true) ∧ (ch_pa 0 f t = true → ch_qn f t = true) ∧ (ch_pa 1 f t = true → ch_qn f t = true) ∧ (ch_kk f t = true → ch_qn f t = true)) := by decide +kernel
theorem ch_t_end : ∀ f, f < 36 → ∀ t, t < 36 → (((t = f + 6 ∨ ch_pa 0 f t = true) → ¬ t < 6) ∧ ((f = t + 6 ∨ ch_pa 1 f t = true) → ¬ 30 ≤ t)) := by decide +kernel
theorem ch_t_ckn : ∀ f, f < 36 → ch_ct (ch_kn f) 36 ≤ 20 ∧ ch_ct (ch_qn f) 36 ≤ 20 := by decide +kernel
theorem ch_t_row : ∀ t, t < 36 → ((nI t / 6 = 5 ↔ 30 ≤ t) ∧ (nI t / 6 = 0 ↔ t < 6) ∧ (nI t < 6 ↔ t < 6) ∧ (30 ≤ nI t ↔ 30 ≤ t)) := by decide +kernel
/-- no piece between -/
def ch_cl (b : Nat → Int32) (f t : Nat) : Bool := (List.range (ch_ln f t)).all fun i => decide (i = 0) || decide (b (ch_sq f t i) = 0)
def ch_lo (b : Nat → Int32) (f t : Nat) : Bool := decide (0 < ch_ln f t) && ch_cl b f t
theorem ch_cl_iff {b : Nat → Int32} {f t : Nat} : ch_cl b f t = true ↔ ∀ i, 1 ≤ i → i < ch_ln f t → b (ch_sq f t i) = 0 := by
  unfold ch_cl
  rw [List.all_eq_true]
  constructor
  · intro h i h1 h2
    have h3 := h i (List.mem_range.mpr h2)
    rcases Bool.or_eq_true_iff.mp h3 with h4 | h4
    · exact absurd (of_decide_eq_true h4) (by omega)
    · exact of_decide_eq_true h4
  · intro h i hi
    rw [List.mem_range] at hi
    rw [Bool.or_eq_true_iff]
    by_cases e : i = 0
    · exact Or.inl (decide_eq_true e)
    · exact Or.inr (decide_eq_true (h i (by omega) hi))
theorem ch_sq_lt {f t i : Nat} (hf : f < 36) (ht : t < 36) (hi : i < ch_ln f t) : ch_sq f t i < 36 ∧ vp_in (ch_qI f t i) 36 ∧ ch_qI f t i = nI (ch_sq f t i) := by
  have h := ch_t_sq f hf t ht i hi
  have h1 : vp_in (ch_qI f t i) 36 := vp_in_iff.mpr ⟨h.1, h.2⟩
  obtain ⟨j, hj, e⟩ := vp_in_of h1 (by decide)
  have h2 : ch_sq f t i = j := by unfold ch_sq; rw [e, nI_clamp (by omega)]
  exact ⟨by omega, h1, by rw [h2, e]⟩
/-- WHAT A PIECE ATTACKS -/
def ch_at (b : Nat → Int32) (f t : Nat) : Bool :=
  if ch_kd (b f) = 1 then ch_pa (ch_sd (b f)) f t
  else if ch_kd (b f) = 2 then ch_kn f t
  else if ch_kd (b f) = 3 then (ch_dg f t && ch_lo b f t)
  else if ch_kd (b f) = 4 then (ch_sr f t && ch_lo b f t)
  else if ch_kd (b f) = 5 then ((ch_sr f t || ch_dg f t) && ch_lo b f t)
  else if ch_kd (b f) = 6 then ch_kk f t
  else false
theorem ch_lo_congr {b b' : Nat → Int32} {f t : Nat} (hf : f < 36) (ht : t < 36) (hz : ∀ i, i < 36 → (b i = 0 ↔ b' i = 0)) : ch_lo b f t = ch_lo b' f t := by
  unfold ch_lo
  congr 1
  apply Bool.eq_iff_iff.mpr
  rw [ch_cl_iff, ch_cl_iff]
  constructor
  · intro h i h1 h2; exact (hz _ (ch_sq_lt hf ht h2).1).mp (h i h1 h2)
  · intro h i h1 h2; exact (hz _ (ch_sq_lt hf ht h2).1).mpr (h i h1 h2)
theorem ch_at_congr {b b' : Nat → Int32} {f t : Nat} (hf : f < 36) (ht : t < 36) (hz : ∀ i, i < 36 → (b i = 0 ↔ b' i = 0)) (e : b f = b' f) : ch_at b f t = ch_at b' f t := by
  unfold ch_at
  rw [e, ch_lo_congr hf ht hz]
theorem ch_lo_self {b : Nat → Int32} {f : Nat} (hf : f < 36) : ch_lo b f f = false := by
  unfold ch_lo; rw [(ch_t_self f hf).1]; rfl
theorem ch_at_self {b : Nat → Int32} {f : Nat} (hf : f < 36) : ch_at b f f = false := by
  have h := (ch_t_self f hf).2
  unfold ch_at
  rw [ch_lo_self hf]
  simp only [Bool.and_false, ch_pa, ch_kn, ch_kk, h]
  simp
/-- a knight's or a queen's geometry holds all attacks -/
theorem ch_at_geo {b : Nat → Int32} {f t : Nat} (hf : f < 36) (ht : t < 36) (h : ch_at b f t = true) : (ch_kd (b f) = 2 ∧ ch_kn f t = true) ∨ (ch_kd (b f) ≠ 2 ∧ ch_qn f t = true) := by
  have hne : ¬ f = t := by intro e; rw [← e, ch_at_self hf] at h; cases h
  obtain ⟨-, -, q1, q2, q3⟩ := ch_t_q f hf t ht
  unfold ch_at at h
  by_cases k1 : ch_kd (b f) = 1
  · rw [if_pos k1] at h
    refine Or.inr ⟨by rw [k1]; decide, ?_⟩
    unfold ch_sd at h
    split at h
    · exact q1 h
    · exact q2 h
  · rw [if_neg k1] at h
    by_cases k2 : ch_kd (b f) = 2
    · rw [if_pos k2] at h; exact Or.inl ⟨k2, h⟩
    · rw [if_neg k2] at h
      refine Or.inr ⟨k2, ?_⟩
      by_cases k3 : ch_kd (b f) = 3
      · rw [if_pos k3, Bool.and_eq_true] at h
        simp [ch_qn, h.1, hne]
      · rw [if_neg k3] at h
        by_cases k4 : ch_kd (b f) = 4
        · rw [if_pos k4, Bool.and_eq_true] at h
          simp [ch_qn, h.1, hne]
        · rw [if_neg k4] at h
          by_cases k5 : ch_kd (b f) = 5
          · rw [if_pos k5, Bool.and_eq_true] at h
            simp only [ch_qn, h.1, hne]; rfl
          · rw [if_neg k5] at h
            by_cases k6 : ch_kd (b f) = 6
            · rw [if_pos k6] at h; exact q3 h
            · rw [if_neg k6] at h; cases h
end
section
/-! check, moves, good boards: pure -/
def ch_an (p : Nat → Bool) (n : Nat) : Bool := decide (0 < ch_ct p n)
theorem ch_an_iff {p : Nat → Bool} {n : Nat} : ch_an p n = true ↔ ∃ i, i < n ∧ p i = true := by
  unfold ch_an
  simp only [decide_eq_true_eq]
  exact ch_ct_pos
def ch_aa (b : Nat → Int32) (k s : Nat) : Nat := ch_ct (fun f => ch_ow (b f) s && ch_at b f k) 36
/-- IN CHECK -/
def ch_ck (b : Nat → Int32) (s : Nat) : Bool := ch_an (fun k => decide (b k = ch_kg s) && decide (0 < ch_aa b k (1 - s))) 36
theorem ch_aa_iff {b : Nat → Int32} {k s : Nat} : 0 < ch_aa b k s ↔ ∃ f, f < 36 ∧ ch_ow (b f) s = true ∧ ch_at b f k = true := by
  unfold ch_aa
  rw [ch_ct_pos]
  simp only [Bool.and_eq_true]
theorem ch_ck_iff {b : Nat → Int32} {s : Nat} : ch_ck b s = true ↔ ∃ k, k < 36 ∧ b k = ch_kg s ∧ ∃ f, f < 36 ∧ ch_ow (b f) (1 - s) = true ∧ ch_at b f k = true := by
  unfold ch_ck
  rw [ch_an_iff]
  simp only [Bool.and_eq_true, decide_eq_true_eq, ch_aa_iff]
theorem ch_s2 {s : Nat} (hs : s < 2) : s = 0 ∨ s = 1 := by omega
theorem ch_s3 {s : Nat} (hs : s < 2) : 1 - (1 - s) = s := by omega
theorem ch_s4 {s : Nat} (hs : s < 2) : (1 : Int32) - nI s = nI (1 - s) := by
  rcases ch_s2 hs with rfl | rfl <;> decide
theorem ch_ow_alt {c : Int32} {s : Nat} (hs : s < 2) (h : ch_ow c s = true) : ch_ow c (1 - s) = false := by
  rcases ch_s2 hs with rfl | rfl
  · exact ch_ow_not h
  · cases h1 : ch_ow c (1 - 1) with
    | false => rfl
    | true => rw [ch_ow_not h1] at h; cases h
theorem ch_ck_mono {b b' : Nat → Int32} {s : Nat} (hs : s < 2) (H : ∀ i, i < 36 → b i = b' i ∨ (ch_ow (b i) s = true ∧ ch_ow (b' i) s = true ∧ b i ≠ ch_kg s ∧ b' i ≠ ch_kg s)) (h : ch_ck b s = true) : ch_ck b' s = true := by
  rw [ch_ck_iff] at h ⊢
  obtain ⟨k, hk, ek, f, hf, of, af⟩ := h
  have hz : ∀ i, i < 36 → (b i = 0 ↔ b' i = 0) := by
    intro i hi
    rcases H i hi with e | ⟨h1, h2, _⟩
    · rw [e]
    · exact ⟨fun z => absurd z (ch_ow_ne h1), fun z => absurd z (ch_ow_ne h2)⟩
  have e1 : b k = b' k := by
    rcases H k hk with e | ⟨_, _, h3, _⟩
    · exact e
    · exact absurd ek h3
  have e2 : b f = b' f := by
    rcases H f hf with e | ⟨h1, _⟩
    · exact e
    · rw [ch_ow_alt hs h1] at of; cases of
  exact ⟨k, hk, e1 ▸ ek, f, hf, e2 ▸ of, by rw [← ch_at_congr hf hk hz e2]; exact af⟩
theorem ch_ck_congr {b b' : Nat → Int32} {s : Nat} (hs : s < 2) (H : ∀ i, i < 36 → b i = b' i ∨ (ch_ow (b i) s = true ∧ ch_ow (b' i) s = true ∧ b i ≠ ch_kg s ∧ b' i ≠ ch_kg s)) : ch_ck b s = ch_ck b' s := by
  apply Bool.eq_iff_iff.mpr
  refine ⟨ch_ck_mono hs H, ch_ck_mono hs fun i hi => ?_⟩
  rcases H i hi with e | ⟨h1, h2, h3, h4⟩
  · exact Or.inl e.symm
  · exact Or.inr ⟨h2, h1, h4, h3⟩
/-- what stands on 'to' after a move, the board after it, and the board with the pawn left a pawn -/
def ch_pc (b : Nat → Int32) (s f t : Nat) : Int32 := if ch_kd (b f) = 1 ∧ (t < 6 ∨ 30 ≤ t) then (if s = 0 then 5 else 13) else b f
def ch_pl (b : Nat → Int32) (s f t : Nat) : Nat → Int32 := upd (upd b f 0) t (ch_pc b s f t)
def ch_tp (b : Nat → Int32) (f t : Nat) : Nat → Int32 := upd (upd b f 0) t (b f)
def ch_cg (b : Nat → Int32) (s f t : Nat) : Bool := ch_ow (b f) s && (!ch_ow (b t) s && (if ch_kd (b f) = 1 ∧ b t = 0 then (if s = 0 then decide (t = f + 6) else decide (f = t + 6)) else ch_at b f t))
def ch_lp (b : Nat → Int32) (s f t : Nat) : Bool := ch_cg b s f t && !ch_ck (ch_pl b s f t) s
def ch_lg (b : Nat → Int32) (s p : Nat) : Bool := ch_lp b s (p / 36) (p % 36)
def ch_pp (b : Nat → Int32) (s p : Nat) : Nat → Int32 := ch_pl b s (p / 36) (p % 36)
def ch_L (b : Nat → Int32) (s : Nat) : List Nat := ch_Rl (ch_lg b s) 0
theorem ch_cg_ow {b : Nat → Int32} {s f t : Nat} (h : ch_cg b s f t = true) : ch_ow (b f) s = true ∧ ch_ow (b t) s = false ∧ f ≠ t := by
  unfold ch_cg at h
  rw [Bool.and_eq_true, Bool.and_eq_true] at h
  obtain ⟨h1, h2, -⟩ := h
  have h3 : ch_ow (b t) s = false := by simpa using h2
  refine ⟨h1, h3, fun e => ?_⟩
  rw [e, h3] at h1
  cases h1
theorem ch_lp_cg {b : Nat → Int32} {s f t : Nat} (h : ch_lp b s f t = true) : ch_cg b s f t = true := by
  unfold ch_lp at h
  rw [Bool.and_eq_true] at h
  exact h.1
theorem ch_cg_geo {b : Nat → Int32} {s f t : Nat} (hf : f < 36) (ht : t < 36) (h : ch_cg b s f t = true) : (ch_kd (b f) = 2 ∧ ch_kn f t = true) ∨ (ch_kd (b f) ≠ 2 ∧ ch_qn f t = true) := by
  unfold ch_cg at h
  rw [Bool.and_eq_true, Bool.and_eq_true] at h
  obtain ⟨-, -, h3⟩ := h
  by_cases k : ch_kd (b f) = 1 ∧ b t = 0
  · rw [if_pos k] at h3
    obtain ⟨q1, q2, -⟩ := ch_t_q f hf t ht
    refine Or.inr ⟨by rw [k.1]; decide, ?_⟩
    split at h3
    · exact q1 (of_decide_eq_true h3)
    · exact q2 (of_decide_eq_true h3)
  · rw [if_neg k] at h3
    exact ch_at_geo hf ht h3
theorem ch_kd_kg (s : Nat) : ch_kd (ch_kg s) = 6 := by
  unfold ch_kg; split <;> decide
theorem ch_kg_0 (s : Nat) : ch_kg s ≠ 0 := by
  unfold ch_kg; split <;> decide
theorem ch_q_kg (s s' : Nat) : (if s = 0 then (5 : Int32) else 13) ≠ ch_kg s' := by
  unfold ch_kg; split <;> split <;> decide
theorem ch_q_ow {s : Nat} (hs : s < 2) : ch_ow (if s = 0 then (5 : Int32) else 13) s = true := by
  rcases ch_s2 hs with rfl | rfl <;> decide
theorem ch_pc_ow {b : Nat → Int32} {s f t : Nat} (hs : s < 2) (h : ch_ow (b f) s = true) : ch_ow (ch_pc b s f t) s = true := by
  unfold ch_pc
  split
  · exact ch_q_ow hs
  · exact h
theorem ch_ck_tp {b : Nat → Int32} {s f t : Nat} (hs : s < 2) (h : ch_ow (b f) s = true) : ch_ck (ch_tp b f t) s = ch_ck (ch_pl b s f t) s := by
  refine ch_ck_congr hs fun i _ => ?_
  unfold ch_tp ch_pl
  by_cases e : i = t
  · subst e
    rw [pk_us, pk_us]
    unfold ch_pc
    by_cases k : ch_kd (b f) = 1 ∧ (i < 6 ∨ 30 ≤ i)
    · rw [if_pos k]
      refine Or.inr ⟨h, ch_q_ow hs, fun z => ?_, ch_q_kg s s⟩
      have := k.1
      rw [z, ch_kd_kg] at this
      exact absurd this (by decide)
    · rw [if_neg k]; exact Or.inl rfl
  · rw [pk_un e, pk_un e]; exact Or.inl rfl
theorem ch_uc {b : Nat → Int32} {i j : Nat} {x y : Int32} (h : i ≠ j) : upd (upd b i x) j y = upd (upd b j y) i x := by
  funext k
  unfold upd
  by_cases e : k = i
  · have : ¬ k = j := by omega
    rw [if_neg this, if_pos e, if_pos e]
  · by_cases e2 : k = j
    · rw [if_pos e2, if_neg e, if_pos e2]
    · rw [if_neg e2, if_neg e, if_neg e, if_neg e2]
/-- a move is taken back -/
theorem ch_back {b : Nat → Int32} {f t : Nat} {x : Int32} (h : f ≠ t) : upd (upd (upd (upd b f 0) t x) f (b f)) t (b t) = b := by
  funext k
  unfold upd
  by_cases e : k = t
  · rw [if_pos e, e]
  · rw [if_neg e]
    by_cases e2 : k = f
    · rw [if_pos e2, e2]
    · rw [if_neg e2, if_neg e, if_neg e2]
def ch_Ok (b : Nat → Int32) : Prop := ∀ i, i < 36 → ch_ok (b i)
def ch_K1 (b : Nat → Int32) : Prop := ∀ s, s < 2 → ∀ i j, i < 36 → j < 36 → b i = ch_kg s → b j = ch_kg s → i = j
def ch_nz (b : Nat → Int32) : Nat := ch_ct (fun i => !decide (b i = 0)) 36
def ch_np (b : Nat → Int32) (s : Nat) : Nat := ch_ct (fun i => ch_ow (b i) s) 36
/-- a good board: pieces alone, six at most, a king a side at most -/
def ch_G (b : Nat → Int32) : Prop := ch_Ok b ∧ ch_K1 b ∧ ch_nz b ≤ 6
theorem ch_Ok_u {b : Nat → Int32} {k : Nat} {x : Int32} (h : ch_Ok b) (hx : ch_ok x) : ch_Ok (upd b k x) := by
  intro i hi
  unfold upd
  split
  · exact hx
  · exact h i hi
theorem ch_ok_0 : ch_ok 0 := Or.inl rfl
theorem ch_ok_q (s : Nat) : ch_ok (if s = 0 then (5 : Int32) else 13) := by
  unfold ch_ok; split <;> decide
theorem ch_Ok_tp {b : Nat → Int32} {f t : Nat} (h : ch_Ok b) (hf : f < 36) : ch_Ok (ch_tp b f t) := ch_Ok_u (ch_Ok_u h ch_ok_0) (h f hf)
theorem ch_Ok_pl {b : Nat → Int32} {s f t : Nat} (h : ch_Ok b) (hf : f < 36) : ch_Ok (ch_pl b s f t) := by
  refine ch_Ok_u (ch_Ok_u h ch_ok_0) ?_
  unfold ch_pc
  split
  · exact ch_ok_q s
  · exact h f hf
theorem ch_K1_gen {b : Nat → Int32} {f t : Nat} {x : Int32} (h : ch_K1 b) (hf : f < 36) (hx : ∀ s, s < 2 → x = ch_kg s → b f = ch_kg s) : ch_K1 (upd (upd b f 0) t x) := by
  intro s hs i j hi hj ei ej
  have key : ∀ k, k < 36 → upd (upd b f 0) t x k = ch_kg s → (k = t ∧ b f = ch_kg s) ∨ (k ≠ f ∧ b k = ch_kg s) := by
    intro k hk e
    unfold upd at e
    by_cases e1 : k = t
    · rw [if_pos e1] at e; exact Or.inl ⟨e1, hx s hs e⟩
    · rw [if_neg e1] at e
      by_cases e2 : k = f
      · rw [if_pos e2] at e; exact absurd e.symm (ch_kg_0 s)
      · rw [if_neg e2] at e; exact Or.inr ⟨e2, e⟩
  rcases key i hi ei with ⟨a1, a2⟩ | ⟨a1, a2⟩ <;> rcases key j hj ej with ⟨b1, b2⟩ | ⟨b1, b2⟩
  · omega
  · exact absurd (h s hs f j hf hj a2 b2).symm b1
  · exact absurd (h s hs f i hf hi b2 a2).symm a1
  · exact h s hs i j hi hj a2 b2
theorem ch_K1_tp {b : Nat → Int32} {f t : Nat} (h : ch_K1 b) (hf : f < 36) : ch_K1 (ch_tp b f t) := ch_K1_gen h hf fun _ _ e => e
theorem ch_K1_pl {b : Nat → Int32} {s f t : Nat} (h : ch_K1 b) (hf : f < 36) : ch_K1 (ch_pl b s f t) := by
  refine ch_K1_gen h hf fun s' _ e => ?_
  unfold ch_pc at e
  split at e
  · exact absurd e (ch_q_kg s s')
  · exact e
theorem ch_ct_mv {p p' : Nat → Bool} {f t n : Nat} (hf : f < n) (ht : t < n) (hne : f ≠ t) (pf : p f = true) (e : ∀ i, i ≠ t → p' i = if i = f then false else p i) : ch_ct p' n ≤ ch_ct p n := by
  have h1 := ch_ct_upd p f false n hf
  have h2 := ch_ct_upd (fun i => if i = f then false else p i) t (p' t) n ht
  have h3 : ch_ct (fun i => if i = t then p' t else if i = f then false else p i) n = ch_ct p' n := by
    refine ch_ct_congr fun i _ => ?_
    by_cases c : i = t
    · rw [if_pos c, c]
    · rw [if_neg c, e i c]
  rw [pf] at h1
  rw [h3] at h2
  have h4 : (if p' t = true then 1 else 0) ≤ 1 := by split <;> omega
  simp only [if_true, Bool.false_eq_true, if_false] at h1
  omega
theorem ch_nz_pl {b : Nat → Int32} {s f t : Nat} (hf : f < 36) (ht : t < 36) (h : f ≠ t) (h0 : ch_ow (b f) s = true) : ch_nz (ch_pl b s f t) ≤ ch_nz b := by
  unfold ch_nz
  refine ch_ct_mv hf ht h (by simp [ch_ow_ne h0]) fun i hi => ?_
  unfold ch_pl
  rw [pk_un hi]
  unfold upd
  by_cases e : i = f
  · rw [if_pos e, if_pos e]; decide
  · rw [if_neg e, if_neg e]
theorem ch_np_own {b : Nat → Int32} {s f t : Nat} (hf : f < 36) (ht : t < 36) (h : ch_cg b s f t = true) : ch_np (ch_pl b s f t) s ≤ ch_np b s := by
  obtain ⟨h0, -, hne⟩ := ch_cg_ow h
  unfold ch_np
  refine ch_ct_mv hf ht hne h0 fun i hi => ?_
  unfold ch_pl
  rw [pk_un hi]
  unfold upd
  by_cases e : i = f
  · rw [if_pos e, if_pos e]; exact ch_ow_0 s
  · rw [if_neg e, if_neg e]
theorem ch_np_oth {b : Nat → Int32} {s f t : Nat} (hs : s < 2) (h : ch_cg b s f t = true) : ch_np (ch_pl b s f t) (1 - s) ≤ ch_np b (1 - s) := by
  obtain ⟨h0, -, -⟩ := ch_cg_ow h
  unfold ch_np
  refine ch_ct_mono fun i _ hi => ?_
  unfold ch_pl at hi
  by_cases e : i = t
  · rw [e, pk_us, ch_ow_alt hs (ch_pc_ow hs h0)] at hi; cases hi
  · rw [pk_un e] at hi
    by_cases e2 : i = f
    · rw [e2, pk_us, ch_ow_0] at hi; cases hi
    · rw [pk_un e2] at hi; exact hi
theorem ch_G_pl {b : Nat → Int32} {s f t : Nat} (g : ch_G b) (hf : f < 36) (ht : t < 36) (h : ch_cg b s f t = true) : ch_G (ch_pl b s f t) := by
  obtain ⟨h0, -, hne⟩ := ch_cg_ow h
  exact ⟨ch_Ok_pl g.1 hf, ch_K1_pl g.2.1 hf, Nat.le_trans (ch_nz_pl hf ht hne h0) g.2.2⟩
theorem ch_np_nz (b : Nat → Int32) {s : Nat} (hs : s < 2) : ch_np b s + ch_np b (1 - s) ≤ ch_nz b := by
  unfold ch_np ch_nz
  refine ch_ct_add _ _ _ 36 fun i _ => ⟨fun z => ?_, fun z => ?_, fun z => ch_ow_alt hs z⟩
  · simp [ch_ow_ne z]
  · simp [ch_ow_ne z]
theorem ch_ct_split (g : Nat → Bool) (m : Nat) : ∀ n, ch_ct g (m + n) = ch_ct g m + ch_ct (fun t => g (m + t)) n := by
  intro n
  induction n with
  | zero => rfl
  | succ n ih => rw [← Nat.add_assoc]; simp only [ch_ct]; rw [ih]; omega
theorem ch_len_f {b : Nat → Int32} {s f : Nat} (hf : f < 36) : ch_ct (fun t => ch_lg b s (36 * f + t)) 36 ≤ if ch_ow (b f) s then 20 else 0 := by
  have e : ∀ t, t < 36 → ch_lg b s (36 * f + t) = ch_lp b s f t := by
    intro t ht
    unfold ch_lg
    rw [show (36 * f + t) / 36 = f by omega, show (36 * f + t) % 36 = t by omega]
  rw [ch_ct_congr e]
  cases h : ch_ow (b f) s with
  | false =>
    rw [ch_ct_0 fun t _ => ?_]
    · exact Nat.zero_le _
    · cases h2 : ch_lp b s f t with
      | false => rfl
      | true => rw [(ch_cg_ow (ch_lp_cg h2)).1] at h; cases h
  | true =>
    have hT := ch_t_ckn f hf
    simp only [if_true]
    by_cases k : ch_kd (b f) = 2
    · refine Nat.le_trans (ch_ct_mono (q := ch_kn f) fun t ht h2 => ?_) hT.1
      rcases ch_cg_geo hf ht (ch_lp_cg h2) with z | z
      · exact z.2
      · exact absurd k z.1
    · refine Nat.le_trans (ch_ct_mono (q := ch_qn f) fun t ht h2 => ?_) hT.2
      rcases ch_cg_geo hf ht (ch_lp_cg h2) with z | z
      · exact absurd z.1 k
      · exact z.2
theorem ch_len_k {b : Nat → Int32} {s : Nat} : ∀ k, k ≤ 36 → ch_ct (ch_lg b s) (36 * k) ≤ 20 * ch_ct (fun i => ch_ow (b i) s) k := by
  intro k
  induction k with
  | zero => intro _; exact Nat.le_refl 0
  | succ k ih =>
    intro hk
    have h1 := ih (by omega)
    have h2 := ch_len_f (b := b) (s := s) (f := k) (by omega)
    rw [show 36 * (k + 1) = 36 * k + 36 by omega, ch_ct_split]
    cases h : ch_ow (b k) s with
    | true =>
      rw [ch_ct_t (p := fun i => ch_ow (b i) s) h]
      simp only [h, if_true] at h2
      omega
    | false =>
      rw [ch_ct_f (p := fun i => ch_ow (b i) s) h]
      simp only [h, Bool.false_eq_true, if_false] at h2
      omega
theorem ch_len (b : Nat → Int32) (s : Nat) : (ch_L b s).length ≤ 20 * ch_np b s := by
  unfold ch_L
  rw [ch_Rlen0]
  exact ch_len_k (b := b) (s := s) 36 (Nat.le_refl 36)
theorem ch_L_mem {b : Nat → Int32} {s p : Nat} (h : p ∈ ch_L b s) : p < 1296 ∧ ch_lg b s p = true := (ch_Rmem 1296 0 (by omega) h).2
/-- how many steps a walk of the depth d takes -/
def ch_T : Nat → (Nat → Int32) → Nat → Nat
  | 0, _, _ => 1
  | d + 1, b, s => 1 + ch_sm (fun p => 1 + ch_T d (ch_pp b s p) (1 - s)) (ch_L b s)
def ch_B : Nat → Nat → Nat → Nat
  | 0, _, _ => 1
  | d + 1, P, Q => 1 + 20 * P * (1 + ch_B d Q P)
theorem ch_B_mono : ∀ d P Q P' Q', P ≤ P' → Q ≤ Q' → ch_B d P Q ≤ ch_B d P' Q' := by
  intro d
  induction d with
  | zero => intro P Q P' Q' _ _; exact Nat.le_refl 1
  | succ d ih =>
    intro P Q P' Q' h1 h2
    have h3 := ih Q P Q' P' h2 h1
    simp only [ch_B]
    exact Nat.add_le_add_left (Nat.mul_le_mul (Nat.mul_le_mul_left 20 h1) (by omega)) 1
theorem ch_lg_in {b : Nat → Int32} {s p : Nat} (hp : p < 1296) (h : ch_lg b s p = true) : p / 36 < 36 ∧ p % 36 < 36 ∧ ch_cg b s (p / 36) (p % 36) = true := ⟨by omega, by omega, ch_lp_cg h⟩
theorem ch_T_le : ∀ d b s, s < 2 → ch_T d b s ≤ ch_B d (ch_np b s) (ch_np b (1 - s)) := by
  intro d
  induction d with
  | zero => intro b s _; exact Nat.le_refl 1
  | succ d ih =>
    intro b s hs
    simp only [ch_T, ch_B]
    have h1 : ch_sm (fun p => 1 + ch_T d (ch_pp b s p) (1 - s)) (ch_L b s) ≤ (ch_L b s).length * (1 + ch_B d (ch_np b (1 - s)) (ch_np b s)) := by
      refine ch_sm_le _ fun p hp => ?_
      obtain ⟨p1, p2⟩ := ch_L_mem hp
      obtain ⟨q1, q2, q3⟩ := ch_lg_in p1 p2
      have h2 := ih (ch_pp b s p) (1 - s) (by omega)
      rw [ch_s3 hs] at h2
      have h3 := ch_B_mono d _ _ _ _ (ch_np_oth hs q3) (ch_np_own q1 q2 q3)
      exact Nat.add_le_add_left (Nat.le_trans h2 h3) 1
    exact Nat.add_le_add_left (Nat.le_trans h1 (Nat.mul_le_mul_right _ (ch_len b s))) 1
theorem ch_B_num : ∀ P, P < 7 → ∀ Q, Q < 7 → P + Q ≤ 6 → ∀ d, d < 4 → ch_B d P Q ≤ 600000 := by decide +kernel
theorem ch_T_num {d : Nat} {b : Nat → Int32} {s : Nat} (hd : d ≤ 3) (hs : s < 2) (h : ch_nz b ≤ 6) : ch_T d b s ≤ 600000 := by
  have h1 := ch_np_nz b hs
  exact Nat.le_trans (ch_T_le d b s hs) (ch_B_num _ (by omega) _ (by omega) (by omega) d (by omega))
end
section
/-! the value, the best move, rows of moves, mates, repeats, quiet moves: pure -/
theorem ch_addI {x y : Int32} (h1 : -1000000 ≤ x.toInt) (h2 : x.toInt ≤ 1000000) (h3 : -1000000 ≤ y.toInt) (h4 : y.toInt ≤ 1000000) : (x + y).toInt = x.toInt + y.toInt := by
  rw [Int32.toInt_add]
  exact Int.bmod_eq_of_le (by omega) (by omega)
theorem ch_subI {x y : Int32} (h1 : -1000000 ≤ x.toInt) (h2 : x.toInt ≤ 1000000) (h3 : -1000000 ≤ y.toInt) (h4 : y.toInt ≤ 1000000) : (x - y).toInt = x.toInt - y.toInt := by
  rw [Int32.toInt_sub]
  exact Int.bmod_eq_of_le (by omega) (by omega)
theorem ch_negI {x : Int32} (h1 : -1000000 ≤ x.toInt) (h2 : x.toInt ≤ 1000000) : (-x).toInt = -x.toInt := by
  rw [Int32.toInt_neg]
  exact Int.bmod_eq_of_le (by omega) (by omega)
def ch_wt (c : Int32) : Int32 := if ch_kd c = 1 then 1 else if ch_kd c = 2 then 3 else if ch_kd c = 3 then 3 else if ch_kd c = 4 then 5 else if ch_kd c = 5 then 9 else 0
theorem ch_wt_in (c : Int32) : 0 ≤ (ch_wt c).toInt ∧ (ch_wt c).toInt ≤ 9 := by
  unfold ch_wt
  split
  · decide
  split
  · decide
  split
  · decide
  split
  · decide
  split <;> decide
def ch_sb (b : Nat → Int32) (s : Nat) : Nat → Int32
  | 0 => 0
  | n + 1 => if ch_ow (b n) s then ch_sb b s n + ch_wt (b n) else ch_sb b s n - ch_wt (b n)
def ch_bl (b : Nat → Int32) (s : Nat) : Int32 := ch_sb b s 36
theorem ch_sb_in {b : Nat → Int32} {s : Nat} : ∀ n : Nat, n ≤ 36 → -(9 * (n : Int)) ≤ (ch_sb b s n).toInt ∧ (ch_sb b s n).toInt ≤ 9 * (n : Int) := by
  intro n
  induction n with
  | zero =>
    intro _
    have e : (ch_sb b s 0).toInt = 0 := (by decide : (0 : Int32).toInt = 0)
    omega
  | succ n ih =>
    intro hn
    have h1 := ih (by omega)
    have h2 := ch_wt_in (b n)
    simp only [ch_sb]
    split
    · rw [ch_addI (by omega) (by omega) (by omega) (by omega)]; omega
    · rw [ch_subI (by omega) (by omega) (by omega) (by omega)]; omega
def ch_nm (p : Nat) : Nat := 64 * (p / 36) + p % 36
def ch_mx (v : Nat → Int32) : Int32 → List Nat → Int32
  | g, [] => g
  | g, p :: r => ch_mx v (if g < -v p then -v p else g) r
def ch_bm (v : Nat → Int32) : Int32 → Int32 → List Nat → Int32
  | _, m, [] => m
  | g, m, p :: r => ch_bm v (if g < -v p then -v p else g) (if g < -v p then nI (ch_nm p) else m) r
/-- the value of a level whose moves are done: g is the greatest -/
def ch_no (d : Nat) (b : Nat → Int32) (s : Nat) : Int32 := if ch_ck b s then -1000 - nI d else 0
def ch_v : Nat → (Nat → Int32) → Nat → Int32
  | 0, b, s => ch_bl b s
  | d + 1, b, s => match ch_L b s with
    | [] => ch_no (d + 1) b s
    | p :: r => ch_mx (fun p => ch_v d (ch_pp b s p) (1 - s)) (-ch_v d (ch_pp b s p) (1 - s)) r
def ch_w (d : Nat) (b : Nat → Int32) (s p : Nat) : Int32 := ch_v d (ch_pp b s p) (1 - s)
theorem ch_v_nil {d : Nat} {b : Nat → Int32} {s : Nat} (h : ch_L b s = []) : ch_v (d + 1) b s = ch_no (d + 1) b s := by
  simp only [ch_v, h]
theorem ch_v_cons {d : Nat} {b : Nat → Int32} {s p : Nat} {r : List Nat} (h : ch_L b s = p :: r) : ch_v (d + 1) b s = ch_mx (ch_w d b s) (-ch_w d b s p) r := by
  simp only [ch_v, h]
  rfl
def ch_in (x : Int32) : Prop := -1003 ≤ x.toInt ∧ x.toInt ≤ 1003
theorem ch_in_neg {x : Int32} (h : ch_in x) : ch_in (-x) := by
  obtain ⟨h1, h2⟩ := h
  unfold ch_in
  rw [ch_negI (by omega) (by omega)]
  omega
theorem ch_mx_in {v : Nat → Int32} (hv : ∀ p, ch_in (v p)) : ∀ (l : List Nat) (g : Int32), ch_in g → ch_in (ch_mx v g l) := by
  intro l
  induction l with
  | nil => intro g h; exact h
  | cons p r ih =>
    intro g h
    simp only [ch_mx]
    refine ih _ ?_
    split
    · exact ch_in_neg (hv p)
    · exact h
theorem ch_no_in : ∀ d, d < 4 → ch_in (-1000 - nI d) := by
  intro d hd
  have h : ∀ d, d < 4 → -1003 ≤ (-1000 - nI d).toInt ∧ (-1000 - nI d).toInt ≤ 1003 := by decide +kernel
  exact h d hd
theorem ch_v_in : ∀ d, d ≤ 3 → ∀ b s, ch_in (ch_v d b s) := by
  intro d
  induction d with
  | zero =>
    intro _ b s
    have h := ch_sb_in (b := b) (s := s) 36 (Nat.le_refl 36)
    show ch_in (ch_sb b s 36)
    unfold ch_in
    omega
  | succ d ih =>
    intro hd b s
    have h1 := ih (by omega)
    cases h : ch_L b s with
    | nil =>
      rw [ch_v_nil h]
      unfold ch_no
      split
      · exact ch_no_in (d + 1) (by omega)
      · exact ⟨by decide, by decide⟩
    | cons p r =>
      rw [ch_v_cons h]
      exact ch_mx_in (fun q => h1 _ _) r _ (ch_in_neg (h1 _ _))
theorem ch_in_gt {x : Int32} (h : ch_in x) : (-5000 : Int32) < -x ∧ (-1000000 : Int32) < -x ∧ (-5000 : Int32) < x ∧ (-1000000 : Int32) < x := by
  obtain ⟨h1, h2⟩ := h
  have a : (-5000 : Int32).toInt = -5000 := by decide
  have c : (-1000000 : Int32).toInt = -1000000 := by decide
  simp only [Int32.lt_iff_toInt_lt, a, c]
  rw [ch_negI (by omega) (by omega)]
  omega
/-- rows of d moves -/
def ch_cn : Nat → (Nat → Int32) → Nat → Nat
  | 0, _, _ => 1
  | d + 1, b, s => ch_sm (fun p => ch_cn d (ch_pp b s p) (1 - s)) (ch_L b s)
/-- mates -/
def ch_mt (b : Nat → Int32) (s : Nat) : Bool := ch_ck b s && (ch_L b s).isEmpty
def ch_cm (b : Nat → Int32) (s : Nat) : Bool := (ch_L b s).any fun p => ch_mt (ch_pp b s p) (1 - s)
def ch_ls (b : Nat → Int32) (s : Nat) : Bool := if (ch_L b s).isEmpty then ch_ck b s else (ch_L b s).all fun p => ch_cm (ch_pp b s p) (1 - s)
def ch_m2 (b : Nat → Int32) (s : Nat) : Bool := (ch_L b s).any fun p => ch_ls (ch_pp b s p) (1 - s)
theorem ch_cm_m2 {b : Nat → Int32} {s : Nat} (h : ch_cm b s = true) : ch_m2 b s = true := by
  unfold ch_cm at h
  unfold ch_m2
  rw [List.any_eq_true] at h ⊢
  obtain ⟨p, hp, h⟩ := h
  refine ⟨p, hp, ?_⟩
  unfold ch_mt at h
  rw [Bool.and_eq_true] at h
  unfold ch_ls
  rw [if_pos h.2]
  exact h.1
/-- every second number from k down that e has -/
def ch_b1 (x : Bool) : Nat := if x then 1 else 0
def ch_st (e : Nat → Bool) : Nat → Nat
  | 0 => ch_b1 (e 0)
  | 1 => ch_b1 (e 1)
  | k + 2 => ch_b1 (e (k + 2)) + ch_st e k
/-- the quiet moves at the end of k moves -/
def ch_qt (M C : Nat → Int32) : Nat → Nat
  | 0 => 0
  | k + 1 => if C k = 0 ∧ ¬ ch_kd (M k) = 1 then ch_qt M C k + 1 else 0
theorem ch_qt_le (M C : Nat → Int32) : ∀ k, ch_qt M C k ≤ k := by
  intro k
  induction k with
  | zero => exact Nat.le_refl 0
  | succ k ih => simp only [ch_qt]; split <;> omega
theorem ch_qt_congr {M C M' C' : Nat → Int32} : ∀ k, (∀ i, i < k → M' i = M i ∧ C' i = C i) → ch_qt M' C' k = ch_qt M C k := by
  intro k
  induction k with
  | zero => intro _; rfl
  | succ k ih =>
    intro h
    simp only [ch_qt]
    rw [(h k (by omega)).1, (h k (by omega)).2, ih fun i hi => h i (by omega)]
end
section
/-! cells as the two classes reckon them; arrays that agree below -/
theorem ch_kdX {c : Int32} (h : ch_ok c) : c &&& 7 = ch_kd c := by
  rcases h with rfl | rfl | rfl | rfl | rfl | rfl | rfl | rfl | rfl | rfl | rfl | rfl | rfl <;> decide
def ch_oX (c : Int32) : Int32 := if c = 0 then -1 else c >>> ((3 : Int32) &&& 31)
theorem ch_owX {c : Int32} {s : Nat} (h : ch_ok c) (hs : s < 2) : ch_oX c = nI s ↔ ch_ow c s = true := by
  rcases ch_s2 hs with rfl | rfl <;> rcases h with rfl | rfl | rfl | rfl | rfl | rfl | rfl | rfl | rfl | rfl | rfl | rfl | rfl <;> decide
theorem ch_sdX {c : Int32} (h : ch_ok c) (h0 : ¬ c = 0) : ch_oX c = 0 ↔ ch_sd c = 0 := by
  rcases h with rfl | rfl | rfl | rfl | rfl | rfl | rfl | rfl | rfl | rfl | rfl | rfl | rfl <;> first | exact absurd rfl h0 | decide
theorem ch_kd_ne {c : Int32} (h : ch_ok c) (h0 : ¬ c = 0) : ch_kd c = 1 ∨ ch_kd c = 2 ∨ ch_kd c = 3 ∨ ch_kd c = 4 ∨ ch_kd c = 5 ∨ ch_kd c = 6 := by
  rcases h with rfl | rfl | rfl | rfl | rfl | rfl | rfl | rfl | rfl | rfl | rfl | rfl | rfl <;> first | exact absurd rfl h0 | decide
theorem ch_kd_0 : ch_kd 0 = 0 := by decide
theorem ch_kd1 {c : Int32} (h : ch_ok c) : ch_kd c = 1 ↔ c = 1 ∨ c = 9 := by
  rcases h with rfl | rfl | rfl | rfl | rfl | rfl | rfl | rfl | rfl | rfl | rfl | rfl | rfl <;> decide
theorem ch_sd8 (c : Int32) : c < 8 ↔ ch_sd c = 0 := by
  unfold ch_sd
  by_cases h : c < 8
  · simp [h]
  · simp [h]
theorem ch_ok_in {p : Int32} : ch_ok p ↔ (¬ p < 0 ∧ p ≤ 14 ∧ ¬ p = 7 ∧ ¬ p = 8) := by
  constructor
  · intro h
    rcases h with rfl | rfl | rfl | rfl | rfl | rfl | rfl | rfl | rfl | rfl | rfl | rfl | rfl <;> decide
  · rintro ⟨h0, h1, h2, h3⟩
    obtain ⟨j, hj, rfl⟩ := nI_of2 (M := 14) (n := 14) (by decide) h0 h1
    have hj2 : j = 0 ∨ j = 1 ∨ j = 2 ∨ j = 3 ∨ j = 4 ∨ j = 5 ∨ j = 6 ∨ j = 7 ∨ j = 8 ∨ j = 9 ∨ j = 10 ∨ j = 11 ∨ j = 12 ∨ j = 13 ∨ j = 14 := by omega
    rcases hj2 with rfl | rfl | rfl | rfl | rfl | rfl | rfl | rfl | rfl | rfl | rfl | rfl | rfl | rfl | rfl <;> first | exact absurd rfl h2 | exact absurd rfl h3 | (unfold ch_ok; decide)
theorem ch_ok_X {p : Int32} (h0 : ¬ p < 0) (h1 : p ≤ 14) : ch_ok p ↔ (p &&& 7) ≤ 6 ∧ (p = 0 ∨ ¬ (p &&& 7) = 0) := by
  rw [ch_ok_in]
  obtain ⟨j, hj, rfl⟩ := nI_of2 (M := 14) (n := 14) (by decide) h0 h1
  have key : ∀ j, j < 15 → ((¬ nI j < 0 ∧ nI j ≤ 14 ∧ ¬ nI j = 7 ∧ ¬ nI j = 8) ↔ (nI j &&& 7) ≤ 6 ∧ (nI j = 0 ∨ ¬ (nI j &&& 7) = 0)) := by decide +kernel
  exact key j (by omega)
def ch_e1 (n : Nat) (a a' : Nat → Int32) : Prop := ∀ i, i < n → a' i = a i
theorem ch_e1_r {n : Nat} {a : Nat → Int32} : ch_e1 n a a := fun _ _ => rfl
theorem ch_e1_t {n : Nat} {a b c : Nat → Int32} (h : ch_e1 n a b) (g : ch_e1 n b c) : ch_e1 n a c := fun i hi => (g i hi).trans (h i hi)
theorem ch_e1_m {n m : Nat} {a b : Nat → Int32} (h : ch_e1 m a b) (l : n ≤ m) : ch_e1 n a b := fun i hi => h i (by omega)
theorem ch_e1_u {n k : Nat} {a : Nat → Int32} {x : Int32} (l : n ≤ k) : ch_e1 n a (upd a k x) := fun i hi => pk_un (by omega)
def ch_e4 (n : Nat) (F T M C F' T' M' C' : Nat → Int32) : Prop := ch_e1 n F F' ∧ ch_e1 n T T' ∧ ch_e1 n M M' ∧ ch_e1 n C C'
theorem ch_e4_r {n : Nat} {F T M C : Nat → Int32} : ch_e4 n F T M C F T M C := ⟨ch_e1_r, ch_e1_r, ch_e1_r, ch_e1_r⟩
theorem ch_e4_t {n : Nat} {F T M C F' T' M' C' F2 T2 M2 C2 : Nat → Int32} (h : ch_e4 n F T M C F' T' M' C') (g : ch_e4 n F' T' M' C' F2 T2 M2 C2) : ch_e4 n F T M C F2 T2 M2 C2 := ⟨ch_e1_t h.1 g.1, ch_e1_t h.2.1 g.2.1, ch_e1_t h.2.2.1 g.2.2.1, ch_e1_t h.2.2.2 g.2.2.2⟩
theorem ch_e4_m {n m : Nat} {F T M C F' T' M' C' : Nat → Int32} (h : ch_e4 m F T M C F' T' M' C') (l : n ≤ m) : ch_e4 n F T M C F' T' M' C' := ⟨ch_e1_m h.1 l, ch_e1_m h.2.1 l, ch_e1_m h.2.2.1 l, ch_e1_m h.2.2.2 l⟩
theorem ch_e4_u {n k : Nat} {F T M C : Nat → Int32} {x y z w : Int32} (l : n ≤ k) : ch_e4 n F T M C (upd F k x) (upd T k y) (upd M k z) (upd C k w) := ⟨ch_e1_u l, ch_e1_u l, ch_e1_u l, ch_e1_u l⟩
/-- the number that the classes answer for a list of moves that are left -/
def ch_hX : List Nat → Int32
  | [] => -1
  | p :: _ => nI (ch_nm p)
def ch_hY : List Nat → Nat
  | [] => 1296
  | p :: _ => p
theorem ch_nm_lt {p : Nat} (h : p < 1296) : ch_nm p < 2304 := by unfold ch_nm; omega
theorem ch_nm_ne {p : Nat} (h : p < 1296) : ¬ nI (ch_nm p) = -1 := by
  have h2 := ch_nm_lt h
  intro e
  have h1 : (nI (ch_nm p)).toInt = (-1 : Int32).toInt := congrArg Int32.toInt e
  rw [nI_toInt (by omega), show (-1 : Int32).toInt = -1 by decide] at h1
  omega
theorem ch_hX_nil {l : List Nat} (hl : ∀ p, p ∈ l → p < 1296) : ch_hX l = -1 ↔ l = [] := by
  cases l with
  | nil => exact ⟨fun _ => rfl, fun _ => rfl⟩
  | cons p r => exact ⟨fun e => absurd e (ch_nm_ne (hl p List.mem_cons_self)), fun e => by cases e⟩
theorem ch_bm_ne {v : Nat → Int32} : ∀ (l : List Nat) (g m : Int32), (∀ p, p ∈ l → p < 1296) → ¬ m = -1 → ¬ ch_bm v g m l = -1 := by
  intro l
  induction l with
  | nil => intro g m _ h; exact h
  | cons p r ih =>
    intro g m hl h
    simp only [ch_bm]
    refine ih _ _ (fun x hx => hl x (List.mem_cons_of_mem p hx)) ?_
    split
    · exact ch_nm_ne (hl p List.mem_cons_self)
    · exact h
def ch_nt : List Nat → Nat → Int32
  | [], _ => -2
  | p :: _, 0 => nI (ch_nm p)
  | _ :: r, k + 1 => ch_nt r k
theorem ch_Rl_lt {g : Nat → Bool} {q : Nat} : ∀ p, p ∈ ch_Rl g q → p < 1296 := fun _ h => (ch_Rmem _ q rfl h).2.1
/-- the steps of counting rows: at most those of a walk -/
def ch_TC : Nat → (Nat → Int32) → Nat → Nat
  | 0, b, s => (ch_L b s).length
  | d + 1, b, s => ch_sm (fun p => 2 + ch_TC d (ch_pp b s p) (1 - s)) (ch_L b s)
theorem ch_sm_mono {v w : Nat → Nat} : ∀ (l : List Nat), (∀ p, p ∈ l → v p ≤ w p) → ch_sm v l ≤ ch_sm w l := by
  intro l
  induction l with
  | nil => intro _; exact Nat.le_refl 0
  | cons p r ih =>
    intro h
    have h1 := ih fun x hx => h x (List.mem_cons_of_mem p hx)
    have h2 := h p List.mem_cons_self
    simp only [ch_sm]
    omega
theorem ch_sm_1 (k : Nat) : ∀ (l : List Nat), ch_sm (fun _ => k) l = l.length * k := by
  intro l
  induction l with
  | nil => simp [ch_sm]
  | cons p r ih => simp only [ch_sm, ih, List.length_cons, Nat.add_mul, Nat.one_mul]; omega
theorem ch_TC_le : ∀ d b s, 1 + ch_TC d b s ≤ ch_T (d + 1) b s := by
  intro d
  induction d with
  | zero =>
    intro b s
    have h := ch_sm_1 (1 + 1) (ch_L b s)
    have e : ch_T (0 + 1) b s = 1 + ch_sm (fun _ => 1 + 1) (ch_L b s) := rfl
    rw [e, h]
    show 1 + (ch_L b s).length ≤ _
    omega
  | succ d ih =>
    intro b s
    have h : ch_sm (fun p => 2 + ch_TC d (ch_pp b s p) (1 - s)) (ch_L b s) ≤ ch_sm (fun p => 1 + ch_T (d + 1) (ch_pp b s p) (1 - s)) (ch_L b s) := by
      refine ch_sm_mono _ fun p _ => ?_
      have := ih (ch_pp b s p) (1 - s)
      omega
    exact Nat.add_le_add_left h 1
end
section
/-! the past of a game: boards, quiet moves, the stack of moves; arrays written in loops -/
def ch_H (h : Nat) (b pX q pY F T M C : Nat → Int32) : Prop :=
  ∃ B : Nat → Nat → Int32, B h = b ∧
    (∀ k, k ≤ h → ch_G (B k) ∧ (∀ i, i < 36 → pX (36 * k + i) = B k i ∧ pY (36 * k + i) = B k i) ∧ q k = nI (ch_qt M C k)) ∧
    (∀ k, k < h → ∃ f t, f < 36 ∧ t < 36 ∧ F k = nI f ∧ T k = nI t ∧ B k = upd (upd (B (k + 1)) f (M k)) t (C k))
theorem ch_H_G {h : Nat} {b pX q pY F T M C : Nat → Int32} (H : ch_H h b pX q pY F T M C) : ch_G b := by
  obtain ⟨B, e, h1, -⟩ := H
  rw [← e]
  exact (h1 h (Nat.le_refl h)).1
theorem ch_H_keep {h : Nat} {b pX q pY F T M C F' T' M' C' : Nat → Int32} (H : ch_H h b pX q pY F T M C) (e : ch_e4 h F T M C F' T' M' C') : ch_H h b pX q pY F' T' M' C' := by
  obtain ⟨B, eB, h1, h2⟩ := H
  obtain ⟨e1, e2, e3, e4⟩ := e
  refine ⟨B, eB, fun k hk => ?_, fun k hk => ?_⟩
  · obtain ⟨a, c, d⟩ := h1 k hk
    refine ⟨a, c, ?_⟩
    rw [d, ch_qt_congr k fun i hi => ⟨e3 i (by omega), e4 i (by omega)⟩]
  · obtain ⟨f, t, hf, ht, a1, a2, a3⟩ := h2 k hk
    exact ⟨f, t, hf, ht, by rw [e1 k hk, a1], by rw [e2 k hk, a2], by rw [e3 k hk, e4 k hk, a3]⟩
theorem ch_H_0 {b pX q pY F T M C : Nat → Int32} (g : ch_G b) (h1 : ∀ i, i < 36 → pX i = b i) (h2 : ∀ i, i < 36 → pY i = b i) (h3 : q 0 = 0) : ch_H 0 b pX q pY F T M C := by
  refine ⟨fun _ => b, rfl, fun k hk => ?_, fun k hk => absurd hk (Nat.not_lt_zero k)⟩
  have e : k = 0 := by omega
  subst e
  refine ⟨g, fun i hi => ?_, h3⟩
  rw [Nat.mul_zero, Nat.zero_add]
  exact ⟨h1 i hi, h2 i hi⟩
theorem ch_H_push {h s f t : Nat} {b pX q pY F T M C pX' q' pY' : Nat → Int32} (H : ch_H h b pX q pY F T M C) (hf : f < 36) (ht : t < 36) (hc : ch_cg b s f t = true)
    (x1 : ∀ i, i < 36 * (h + 1) → pX' i = pX i) (x2 : ∀ i, i < 36 → pX' (36 * (h + 1) + i) = ch_pl b s f t i)
    (y1 : ∀ i, i < 36 * (h + 1) → pY' i = pY i) (y2 : ∀ i, i < 36 → pY' (36 * (h + 1) + i) = ch_pl b s f t i)
    (q1 : ∀ k, k ≤ h → q' k = q k) (q2 : q' (h + 1) = if b t = 0 ∧ ¬ ch_kd (b f) = 1 then q h + 1 else 0) :
    ch_H (h + 1) (ch_pl b s f t) pX' q' pY' (upd F h (nI f)) (upd T h (nI t)) (upd M h (b f)) (upd C h (b t)) := by
  have g := ch_H_G H
  obtain ⟨B, eB, h1, h2⟩ := H
  obtain ⟨-, -, hne⟩ := ch_cg_ow hc
  have hq : ∀ k, k ≤ h → ch_qt (upd M h (b f)) (upd C h (b t)) k = ch_qt M C k := fun k hk => ch_qt_congr k fun i hi => ⟨pk_un (by omega), pk_un (by omega)⟩
  refine ⟨fun k => if k = h + 1 then ch_pl b s f t else B k, if_pos rfl, fun k hk => ?_, fun k hk => ?_⟩
  · by_cases e : k = h + 1
    · subst e
      simp only [if_pos]
      refine ⟨ch_G_pl g hf ht hc, fun i hi => ⟨x2 i hi, y2 i hi⟩, ?_⟩
      rw [q2]
      simp only [ch_qt]
      rw [pk_us, pk_us, hq h (Nat.le_refl h), (h1 h (Nat.le_refl h)).2.2]
      split
      · exact nI_1 _
      · rfl
    · obtain ⟨a, c, d⟩ := h1 k (by omega)
      simp only [if_neg e]
      refine ⟨a, fun i hi => ?_, ?_⟩
      · rw [x1 _ (by omega), y1 _ (by omega)]; exact c i hi
      · rw [q1 k (by omega), d, hq k (by omega)]
  · by_cases e : k = h
    · subst e
      refine ⟨f, t, hf, ht, pk_us, pk_us, ?_⟩
      simp only [if_neg (show ¬ k = k + 1 by omega), if_pos]
      rw [pk_us, pk_us, eB]
      unfold ch_pl
      exact (ch_back hne).symm
    · obtain ⟨f', t', hf', ht', a1, a2, a3⟩ := h2 k (by omega)
      refine ⟨f', t', hf', ht', by rw [pk_un e, a1], by rw [pk_un e, a2], ?_⟩
      simp only [if_neg (show ¬ k = h + 1 by omega), if_neg (show ¬ k + 1 = h + 1 by omega)]
      rw [pk_un e, pk_un e]
      exact a3
theorem ch_H_pop {h : Nat} {b pX q pY F T M C : Nat → Int32} (H : ch_H (h + 1) b pX q pY F T M C) :
    ∃ f t, f < 36 ∧ t < 36 ∧ F h = nI f ∧ T h = nI t ∧ ch_H h (upd (upd b f (M h)) t (C h)) pX q pY F T M C ∧ (∀ i, i < 36 → pX (36 * h + i) = upd (upd b f (M h)) t (C h) i) ∧ (∀ i, 36 ≤ i → b i = upd (upd b f (M h)) t (C h) i) := by
  obtain ⟨B, eB, h1, h2⟩ := H
  obtain ⟨f, t, hf, ht, a1, a2, a3⟩ := h2 h (by omega)
  rw [eB] at a3
  refine ⟨f, t, hf, ht, a1, a2, ⟨B, a3, fun k hk => h1 k (by omega), fun k hk => h2 k (by omega)⟩, fun i hi => ?_, fun i hi => ?_⟩
  · rw [((h1 h (by omega)).2.1 i hi).1, a3]
  · rw [pk_un (by omega), pk_un (by omega)]
/-- an array after n cells of a board were copied to 36 * h on -/
def ch_kp (p b : Nat → Int32) (h n : Nat) : Nat → Int32 := fun i => if 36 * h ≤ i ∧ i < 36 * h + n then b (i - 36 * h) else p i
theorem ch_kp_0 (p b : Nat → Int32) (h : Nat) : ch_kp p b h 0 = p := by
  funext i
  unfold ch_kp
  rw [if_neg (by omega)]
theorem ch_kp_s (p b : Nat → Int32) (h n : Nat) : upd (ch_kp p b h n) (36 * h + n) (b n) = ch_kp p b h (n + 1) := by
  funext i
  unfold ch_kp upd
  by_cases e : i = 36 * h + n
  · rw [if_pos e, if_pos (by omega), e, show 36 * h + n - 36 * h = n by omega]
  · rw [if_neg e]
    dsimp only
    by_cases e2 : 36 * h ≤ i ∧ i < 36 * h + n
    · rw [if_pos e2, if_pos (by omega)]
    · rw [if_neg e2, if_neg (by omega)]
theorem ch_kp_lo {p b : Nat → Int32} {h n i : Nat} (hi : i < 36 * h) : ch_kp p b h n i = p i := if_neg (by omega)
theorem ch_kp_at {p b : Nat → Int32} {h n i : Nat} (hi : i < n) : ch_kp p b h n (36 * h + i) = b i := by
  unfold ch_kp
  rw [if_pos (by omega), show 36 * h + i - 36 * h = i by omega]
/-- a board after its first n cells were copied from c -/
def ch_cp (b c : Nat → Int32) (n : Nat) : Nat → Int32 := fun i => if i < n then c i else b i
theorem ch_cp_0 (b c : Nat → Int32) : ch_cp b c 0 = b := by
  funext i
  exact if_neg (Nat.not_lt_zero i)
theorem ch_cp_s (b c : Nat → Int32) (n : Nat) : upd (ch_cp b c n) n (c n) = ch_cp b c (n + 1) := by
  funext i
  unfold ch_cp upd
  by_cases e : i = n
  · rw [if_pos e, if_pos (by omega), e]
  · rw [if_neg e]
    dsimp only
    by_cases e2 : i < n
    · rw [if_pos e2, if_pos (by omega)]
    · rw [if_neg e2, if_neg (by omega)]
theorem ch_cp_36 {b c d : Nat → Int32} (h1 : ∀ i, i < 36 → c i = d i) (h2 : ∀ i, 36 ≤ i → b i = d i) : ch_cp b c 36 = d := by
  funext i
  unfold ch_cp
  by_cases e : i < 36
  · rw [if_pos e]; exact h1 i e
  · rw [if_neg e]; exact h2 i (by omega)
/-- the loop over quiet moves -/
theorem ch_qt_back (M C : Nat → Int32) {h n : Nat} (hn : n ≤ h) (q : ∀ j, j < n → C (h - 1 - j) = 0 ∧ ¬ ch_kd (M (h - 1 - j)) = 1) : ch_qt M C h = n + ch_qt M C (h - n) := by
  induction n with
  | zero => rw [Nat.zero_add, Nat.sub_zero]
  | succ n ih =>
    rw [ih (by omega) fun j hj => q j (by omega)]
    have h1 := q n (by omega)
    rw [show h - 1 - n = h - (n + 1) by omega] at h1
    rw [show h - n = (h - (n + 1)) + 1 by omega]
    simp only [ch_qt]
    rw [if_pos h1]
    omega
end
section
/-! the component: attacks, check, moves -/
theorem ch_bX {post : Int32 → Prop} {A : Prop} {x : Bool} (hA : A ↔ x = true) (h : post (ch_bI x)) : (A → post 1) ∧ (¬ A → post 0) := by
  cases x with
  | true => exact br_t (hA.mpr rfl) h
  | false => exact br_f (fun z => Bool.noConfusion (hA.mp z)) h
theorem ch_aX {post : Int32 → Prop} {A B : Prop} {x y : Bool} (hA : A ↔ x = true) (hB : B ↔ y = true) (h : post (ch_bI (x && y))) : (A → ((B → post 1) ∧ (¬ B → post 0))) ∧ (¬ A → post 0) := by
  cases x with
  | true => exact br_t (hA.mpr rfl) (ch_bX hB h)
  | false => exact br_f (fun z => Bool.noConfusion (hA.mp z)) h
theorem ch_rX {post : Int32 → Prop} {x : Bool} (h : post (ch_bI x)) : (ch_bI x = 0 → post 0) ∧ (¬ ch_bI x = 0 → post 1) := by
  cases x with
  | true => exact br_f (by decide) h
  | false => exact br_t rfl h
theorem ch_narB (x : Bool) : narrow .boolean (.int (ch_bI x)) = .int (ch_bI x) := by cases x <;> rfl
theorem ch_kgX {s : Nat} (hs : s < 2) : (6 : Int32) + (nI s <<< ((3 : Int32) &&& 31)) = ch_kg s := by
  rcases ch_s2 hs with rfl | rfl <;> decide
theorem ch_qX {s : Nat} (hs : s < 2) : (5 : Int32) + (nI s <<< ((3 : Int32) &&& 31)) = (if s = 0 then 5 else 13) := by
  rcases ch_s2 hs with rfl | rfl <;> decide
theorem ch_kgY {s : Nat} (hs : s < 2) : (6 : Int32) + (8 * nI s) = ch_kg s := by
  rcases ch_s2 hs with rfl | rfl <;> decide
theorem ch_sgX {P : Int32 → Prop} {x : Int32} (h : P (ch_sg x)) : (x ≤ 0 → ((0 ≤ x → P 0) ∧ (¬ 0 ≤ x → P (-1)))) ∧ (¬ x ≤ 0 → P 1) := by
  unfold ch_sg at h
  by_cases h1 : 0 < x
  · rw [if_pos h1] at h
    exact br_f (Int32.not_le.mpr h1) h
  · rw [if_neg h1] at h
    refine br_t (Int32.not_lt.mp h1) ?_
    by_cases h2 : x < 0
    · rw [if_pos h2] at h
      exact br_f (Int32.not_le.mpr h2) h
    · rw [if_neg h2] at h
      exact br_t (Int32.not_lt.mp h2) h
theorem cx_sq_in {post : Int32 → Prop} {j : Nat} (hj : j < 36) (h : post 1) : wpX_isSquare post (nI j) :=
  br_f (nI_pos (by omega)) (br_f (nI_ge (b := 36) hj (by decide)) h)
theorem cx_sq_out {post : Int32 → Prop} {x : Int32} (hx : x < 0 ∨ nI 36 ≤ x) (h : post 0) : wpX_isSquare post x := by
  unfold wpX_isSquare
  by_cases h0 : x < 0
  · exact br_t h0 h
  · exact br_f h0 (br_t (hx.resolve_left h0) h)
theorem cx_kindOf {post : Int32 → Prop} {c : Int32} (hc : ch_ok c) (h : post (ch_kd c)) : wpX_kindOf post c := by
  unfold wpX_kindOf
  rw [ch_kdX hc]
  exact h
theorem cx_ownerOf {post : Int32 → Prop} {c : Int32} (h : post (ch_oX c)) : wpX_ownerOf post c := by
  unfold wpX_ownerOf
  unfold ch_oX at h
  by_cases e : c = 0
  · rw [if_pos e] at h; exact br_t e h
  · rw [if_neg e] at h; exact br_f e h
section
variable {xg xm xh xr : Int32} {b xp xq xt xv xk xz : Nat → Int32}
theorem cx_cp_l {post : Int32 → Prop} (H : post (nI (ch_nz b))) : ∀ d j, j + d = 36 → wX_countPieces_4 post xg xm xh xr b xp xq xt xv xk xz (d + 1) (nI (ch_ct (fun i => !decide (b i = 0)) j)) (nI j) := by
  intro d
  induction d with
  | zero =>
    intro j hj
    have e : j = 36 := by omega
    subst e
    exact br_t (nI_le (Nat.le_refl 36) (by decide)) H
  | succ d ih =>
    intro j hj
    have cl : (nI j).toNatClampNeg = j := nI_clamp (by omega)
    have h1 := ih (j + 1) (by omega)
    refine br_f (nI_ge (b := 36) (by omega) (by decide)) ⟨vp_in_nI (by omega) (by decide), ek_if (d := b j = 0) (by rw [cl]) (fun z => nm_r (nI_1 j) ?_) (fun z => nm_r (nI_1 _) (nm_r (nI_1 j) ?_))⟩
    · rw [ch_ct_f (by simp [z])] at h1; exact h1
    · rw [ch_ct_t (by simp [z])] at h1; exact h1
theorem cx_countPieces {post : Int32 → Prop} (H : post (nI (ch_nz b))) : wpX_countPieces post (xg, xm, xh, xr, b, xp, xq, xt, xv, xk, xz) := ⟨37, cx_cp_l H 36 0 rfl⟩
theorem cx_ks_l {post : Int32 → Prop} {s : Nat} (H : post (nI (ch_ct (fun i => decide (b i = ch_kg s)) 36))) : ∀ d j, j + d = 36 → wX_countKings_12 post (ch_kg s) xg xm xh xr b xp xq xt xv xk xz (d + 1) (nI (ch_ct (fun i => decide (b i = ch_kg s)) j)) (nI j) := by
  intro d
  induction d with
  | zero =>
    intro j hj
    have e : j = 36 := by omega
    subst e
    exact br_t (nI_le (Nat.le_refl 36) (by decide)) H
  | succ d ih =>
    intro j hj
    have cl : (nI j).toNatClampNeg = j := nI_clamp (by omega)
    have h1 := ih (j + 1) (by omega)
    refine br_f (nI_ge (b := 36) (by omega) (by decide)) ⟨vp_in_nI (by omega) (by decide), ek_if (d := b j = ch_kg s) (by rw [cl]) (fun z => nm_r (nI_1 _) (nm_r (nI_1 j) ?_)) (fun z => nm_r (nI_1 j) ?_)⟩
    · rw [ch_ct_t (by simp [z])] at h1; exact h1
    · rw [ch_ct_f (by simp [z])] at h1; exact h1
theorem cx_countKings {post : Int32 → Prop} {s : Nat} (hs : s < 2) (H : post (nI (ch_ct (fun i => decide (b i = ch_kg s)) 36))) : wpX_countKings post (xg, xm, xh, xr, b, xp, xq, xt, xv, xk, xz) (nI s) := by
  unfold wpX_countKings wpX_pieceOf
  dsimp only
  rw [ch_kgX hs]
  exact ⟨37, cx_ks_l H 36 0 rfl⟩
theorem cx_kq_l {post : Int32 → Prop} {s : Nat} (H : ∀ k, k < 36 → b k = ch_kg s → post (nI k)) (H0 : (∀ k, k < 36 → ¬ b k = ch_kg s) → post (-1)) : ∀ d j, j + d = 36 → (∀ k, k < j → ¬ b k = ch_kg s) → wX_squareOfKing_9 post (ch_kg s) xg xm xh xr b xp xq xt xv xk xz (d + 1) (nI j) := by
  intro d
  induction d with
  | zero =>
    intro j hj hk
    have e : j = 36 := by omega
    subst e
    exact br_t (nI_le (Nat.le_refl 36) (by decide)) (H0 hk)
  | succ d ih =>
    intro j hj hk
    have cl : (nI j).toNatClampNeg = j := nI_clamp (by omega)
    refine br_f (nI_ge (b := 36) (by omega) (by decide)) ⟨vp_in_nI (by omega) (by decide), ek_if (d := b j = ch_kg s) (by rw [cl]) (fun z => H j (by omega) z) (fun z => nm_r (nI_1 j) (ih (j + 1) (by omega) fun k hk2 => ?_))⟩
    by_cases e : k = j
    · rw [e]; exact z
    · exact hk k (by omega)
theorem cx_squareOfKing {post : Int32 → Prop} {s : Nat} (hs : s < 2) (H : ∀ k, k < 36 → b k = ch_kg s → post (nI k)) (H0 : (∀ k, k < 36 → ¬ b k = ch_kg s) → post (-1)) : wpX_squareOfKing post (xg, xm, xh, xr, b, xp, xq, xt, xv, xk, xz) (nI s) := by
  unfold wpX_squareOfKing wpX_pieceOf
  dsimp only
  rw [ch_kgX hs]
  exact ⟨37, cx_kq_l H H0 36 0 rfl (fun k hk => absurd hk (Nat.not_lt_zero k))⟩
theorem cx_ln_l {post : Int32 → Prop} {f t : Nat} (hf : f < 36) (ht : t < 36) (H : post (ch_bI (ch_lo b f t))) : ∀ d i, 1 ≤ i → i < 7 → ch_ln f t ≤ i + d → (∀ j, 1 ≤ j → j < i → b (ch_sq f t j) = 0) → wX_lineIsOpen_92 post (nI f) (nI (ch_ln f t)) (ch_sp f t) xg xm xh xr b xp xq xt xv xk xz (d + 1) (nI i) := by
  have hl := (ch_t_ln f hf t ht).2.1
  have hend : ∀ d i, 1 ≤ i → i < 7 → ch_ln f t ≤ i → (∀ j, 1 ≤ j → j < i → b (ch_sq f t j) = 0) → wX_lineIsOpen_92 post (nI f) (nI (ch_ln f t)) (ch_sp f t) xg xm xh xr b xp xq xt xv xk xz (d + 1) (nI i) := by
    intro d i h1 h7 h2 h3
    refine br_t (nI_le h2 (by omega)) ?_
    by_cases e : ch_ln f t = 0
    · have e2 : ch_lo b f t = false := by unfold ch_lo; rw [e]; rfl
      rw [e2] at H
      rw [e]
      exact br_t (nI_le (Nat.le_refl 0) (by decide)) H
    · have e2 : ch_lo b f t = true := by
        unfold ch_lo
        rw [Bool.and_eq_true, ch_cl_iff]
        exact ⟨decide_eq_true (by omega), fun j a c => h3 j a (by omega)⟩
      rw [e2] at H
      exact br_f (nI_nle (by omega) (by omega)) H
  intro d
  induction d with
  | zero => intro i h1 h7 h2 h3; exact hend 0 i h1 h7 (by omega) h3
  | succ d ih =>
    intro i h1 h7 h2 h3
    by_cases h4 : ch_ln f t ≤ i
    · exact hend (d + 1) i h1 h7 h4 h3
    · have hq := ch_sq_lt (f := f) (t := t) (i := i) hf ht (by omega)
      refine br_f (nI_ge (by omega) (by omega)) ⟨hq.2.1, ?_⟩
      by_cases z : b (ch_sq f t i) = 0
      · refine br_t z (nm_r (nI_1 i) (ih (i + 1) (by omega) (by omega) (by omega) fun j a c => ?_))
        by_cases e : j = i
        · rw [e]; exact z
        · exact h3 j a (by omega)
      · have e2 : ch_lo b f t = false := by
          cases hc : ch_lo b f t with
          | false => rfl
          | true =>
            unfold ch_lo at hc
            rw [Bool.and_eq_true, ch_cl_iff] at hc
            exact absurd (hc.2 i h1 (by omega)) z
        rw [e2] at H
        exact br_f z H
theorem cx_lineIsOpen {post : Int32 → Prop} {f t : Nat} (hf : f < 36) (ht : t < 36) (H : post (ch_bI (ch_lo b f t))) : wpX_lineIsOpen post (xg, xm, xh, xr, b, xp, xq, xt, xv, xk, xz) (nI f) (nI t) := by
  have h77 : wX_lineIsOpen_77 post (nI f) (ch_sg (ch_R f t)) (ch_sg (ch_C f t)) (ch_lI f t) xg xm xh xr b xp xq xt xv xk xz := by
    refine nm_r (e' := ch_sp f t) rfl ⟨6, ?_⟩
    rw [(ch_t_ln f hf t ht).1]
    exact cx_ln_l hf ht H 5 1 (by omega) (by omega) (by have := (ch_t_ln f hf t ht).2.1; omega) (fun j a c => by omega)
  have h59 : wX_lineIsOpen_59 post (nI f) (ch_R f t) (ch_C f t) (ch_sg (ch_R f t)) (ch_sg (ch_C f t)) xg xm xh xr b xp xq xt xv xk xz := by
    unfold ch_lI at h77
    by_cases e : ch_R f t = 0
    · rw [if_pos e] at h77; exact br_t e h77
    · rw [if_neg e] at h77; exact br_f e h77
  have h38 : wX_lineIsOpen_38 post (nI f) (ch_R f t) (ch_C f t) (ch_sg (ch_R f t)) xg xm xh xr b xp xq xt xv xk xz := ch_sgX (P := fun z => wX_lineIsOpen_59 post (nI f) (ch_R f t) (ch_C f t) (ch_sg (ch_R f t)) z xg xm xh xr b xp xq xt xv xk xz) h59
  exact ⟨by decide, by decide, nm_r (e' := ch_R f t) rfl ⟨by decide, by decide, nm_r (e' := ch_C f t) rfl (ch_sgX (P := fun z => wX_lineIsOpen_38 post (nI f) (ch_R f t) (ch_C f t) z xg xm xh xr b xp xq xt xv xk xz) h38)⟩⟩
theorem cx_at66 {post : Int32 → Prop} {f t : Nat} (hf : f < 36) (ht : t < 36) (hb : ch_ok (b f)) (H : post (ch_bI (ch_at b f t))) : wX_attacks_66 post (nI f) (nI t) (ch_R f t) (ch_D f t) (ch_bI (ch_sr f t)) (ch_bI (ch_dg f t)) xg xm xh xr b xp xq xt xv xk xz := by
  refine ⟨vp_in_nI hf (by decide), nm_r (e' := b f) (congrArg b (nI_clamp (by omega))) (cx_ownerOf (cx_kindOf hb ?_))⟩
  by_cases z : b f = 0
  · have e : ch_at b f t = false := by unfold ch_at; rw [z, ch_kd_0]; rfl
    rw [e] at H
    rw [z, ch_kd_0]
    exact br_t (by decide) H
  · rcases ch_kd_ne hb z with k | k | k | k | k | k
    · have e : ch_at b f t = ch_pa (ch_sd (b f)) f t := by unfold ch_at; rw [if_pos k]
      rw [k]
      refine br_f (by decide) (br_f (by decide) (br_t rfl ?_))
      rw [e] at H
      unfold wpX_stepAhead
      unfold ch_pa at H
      by_cases h0 : ch_sd (b f) = 0
      · rw [if_pos h0] at H
        exact br_t ((ch_sdX hb z).mpr h0) (ch_aX (by simp) (by simp) H)
      · rw [if_neg h0] at H
        exact br_f (fun y => h0 ((ch_sdX hb z).mp y)) (ch_aX (by simp) (by simp) H)
    · have e : ch_at b f t = ch_kn f t := by unfold ch_at; rw [k]; rfl
      rw [k]
      rw [e] at H
      unfold ch_kn at H
      exact br_f (by decide) (br_f (by decide) (br_f (by decide) (br_t rfl (ch_bX (by simp) H))))
    · have e : ch_at b f t = (ch_dg f t && ch_lo b f t) := by unfold ch_at; rw [k]; rfl
      rw [k]
      rw [e] at H
      refine br_f (by decide) (br_f (by decide) (br_f (by decide) (br_f (by decide) (br_t rfl ?_))))
      cases hd : ch_dg f t with
      | false => rw [hd] at H; exact br_t rfl H
      | true => rw [hd] at H; exact br_f (by decide) (cx_lineIsOpen hf ht (ch_rX H))
    · have e : ch_at b f t = (ch_sr f t && ch_lo b f t) := by unfold ch_at; rw [k]; rfl
      rw [k]
      rw [e] at H
      refine br_f (by decide) (br_f (by decide) (br_f (by decide) (br_f (by decide) (br_f (by decide) (br_t rfl ?_)))))
      cases hd : ch_sr f t with
      | false => rw [hd] at H; exact br_t rfl H
      | true => rw [hd] at H; exact br_f (by decide) (cx_lineIsOpen hf ht (ch_rX H))
    · have e : ch_at b f t = ((ch_sr f t || ch_dg f t) && ch_lo b f t) := by unfold ch_at; rw [k]; rfl
      rw [k]
      rw [e] at H
      refine br_f (by decide) (br_f (by decide) (br_f (by decide) (br_f (by decide) (br_f (by decide) (br_f (by decide) (br_t rfl ?_))))))
      cases hs : ch_sr f t with
      | true => rw [hs] at H; exact br_f (by decide) (cx_lineIsOpen hf ht (ch_rX H))
      | false =>
        refine br_t rfl ?_
        rw [hs] at H
        cases hd : ch_dg f t with
        | false => rw [hd] at H; exact br_t rfl H
        | true => rw [hd] at H; exact br_f (by decide) (cx_lineIsOpen hf ht (ch_rX H))
    · have e : ch_at b f t = ch_kk f t := by unfold ch_at; rw [k]; rfl
      rw [k]
      rw [e] at H
      unfold ch_kk at H
      refine br_f (by decide) (br_f (by decide) (br_f (by decide) (br_f (by decide) (br_f (by decide) (br_f (by decide) (br_f (by decide) (br_t rfl ?_)))))))
      by_cases d1 : ch_D f t = 1
      · rw [decide_eq_true d1] at H; exact br_t d1 H
      · rw [decide_eq_false d1] at H; exact br_f d1 (ch_bX (by simp) H)
theorem cx_attacks {post : Int32 → Prop} {f t : Nat} (hf : f < 36) (ht : t < 36) (hb : ch_ok (b f)) (H : post (ch_bI (ch_at b f t))) : wpX_attacks post (xg, xm, xh, xr, b, xp, xq, xt, xv, xk, xz) (nI f) (nI t) := by
  have h66 := cx_at66 (xg := xg) (xm := xm) (xh := xh) (xr := xr) (xp := xp) (xq := xq) (xt := xt) (xv := xv) (xk := xk) (xz := xz) hf ht hb H
  have h46 : wX_attacks_46 post (nI f) (nI t) (ch_R f t) (ch_C f t) (ch_D f t) (ch_bI (ch_sr f t)) xg xm xh xr b xp xq xt xv xk xz := by
    unfold ch_dg at h66
    by_cases e1 : ch_R f t = ch_C f t
    · rw [decide_eq_true e1] at h66; exact br_t e1 h66
    · refine br_f e1 ?_
      rw [decide_eq_false e1] at h66
      by_cases e2 : ch_R f t = -ch_C f t
      · rw [decide_eq_true e2] at h66; exact br_t e2 h66
      · rw [decide_eq_false e2] at h66; exact br_f e2 h66
  refine ⟨by decide, by decide, nm_r (e' := ch_R f t) rfl ⟨by decide, by decide, nm_r (e' := ch_C f t) rfl (nm_r (e' := ch_D f t) rfl ?_)⟩⟩
  unfold ch_sr at h46
  by_cases e1 : ch_R f t = 0
  · rw [decide_eq_true e1] at h46; exact br_t e1 h46
  · refine br_f e1 ?_
    rw [decide_eq_false e1] at h46
    by_cases e2 : ch_C f t = 0
    · rw [decide_eq_true e2] at h46; exact br_t e2 h46
    · rw [decide_eq_false e2] at h46; exact br_f e2 h46
end
end
section
/-! the component: check, moves, the next legal move -/
theorem ch_ck_k {b : Nat → Int32} {s k : Nat} (hK : ch_K1 b) (hs : s < 2) (hk : k < 36) (e : b k = ch_kg s) : ch_ck b s = decide (0 < ch_aa b k (1 - s)) := by
  apply Bool.eq_iff_iff.mpr
  rw [ch_ck_iff, decide_eq_true_eq, ch_aa_iff]
  constructor
  · rintro ⟨k', h1, h2, h3⟩
    rw [hK s hs k' k h1 hk h2 e] at h3
    exact h3
  · intro h
    exact ⟨k, hk, e, h⟩
theorem ch_ck_no {b : Nat → Int32} {s : Nat} (h : ∀ k, k < 36 → ¬ b k = ch_kg s) : ch_ck b s = false := by
  cases hc : ch_ck b s with
  | false => rfl
  | true =>
    obtain ⟨k, h1, h2, -⟩ := ch_ck_iff.mp hc
    exact absurd h2 (h k h1)
def ch_mv (b : Nat → Int32) (s f t : Nat) : Bool := !ch_ow (b t) s && (if ch_kd (b f) = 1 ∧ b t = 0 then (if s = 0 then decide (t = f + 6) else decide (f = t + 6)) else ch_at b f t)
theorem ch_lg_eq {b : Nat → Int32} {s f t : Nat} (ht : t < 36) : ch_lg b s (36 * f + t) = ((ch_ow (b f) s && ch_mv b s f t) && !ch_ck (ch_pl b s f t) s) := by
  unfold ch_lg
  rw [show (36 * f + t) / 36 = f by omega, show (36 * f + t) % 36 = t by omega]
  rfl
section
variable {xg xm xh xr : Int32} {b xp xq xt xv xk xz : Nat → Int32}
theorem cx_ic_l {post : Int32 → Prop} {s k : Nat} (hs : s < 2) (hO : ch_Ok b) (hk : k < 36) (H : post (ch_bI (decide (0 < ch_aa b k (1 - s))))) : ∀ d j, j + d = 36 → ch_ct (fun f => ch_ow (b f) (1 - s) && ch_at b f k) j = 0 → wX_inCheck_14 post (nI s) (nI k) xg xm xh xr b xp xq xt xv xk xz (d + 1) (nI j) := by
  intro d
  induction d with
  | zero =>
    intro j hj h0
    have e : j = 36 := by omega
    subst e
    have e2 : ch_aa b k (1 - s) = 0 := h0
    rw [e2] at H
    exact br_t (nI_le (Nat.le_refl 36) (by decide)) H
  | succ d ih =>
    intro j hj h0
    have cl : (nI j).toNatClampNeg = j := nI_clamp (by omega)
    refine br_f (nI_ge (b := 36) (by omega) (by decide)) ⟨vp_in_nI (by omega) (by decide), ?_⟩
    rw [cl]
    refine cx_ownerOf (ek_if (d := ch_ow (b j) (1 - s) = true) (by rw [ch_s4 hs]; exact ch_owX (hO j (by omega)) (by omega)) (fun z => cx_attacks (by omega) hk (hO j (by omega)) ?_) (fun z => nm_r (nI_1 j) (ih (j + 1) (by omega) ?_)))
    · cases hc : ch_at b j k with
      | false => exact br_t rfl (nm_r (nI_1 j) (ih (j + 1) (by omega) (by rw [ch_ct_f (by simp [hc])]; exact h0)))
      | true =>
        have e2 : 0 < ch_aa b k (1 - s) := ch_aa_iff.mpr ⟨j, by omega, z, hc⟩
        rw [decide_eq_true e2] at H
        exact br_f (by decide) H
    · rw [ch_ct_f (by simp [z])]; exact h0
theorem cx_inCheck {post : Int32 → Prop} {s : Nat} (hs : s < 2) (hO : ch_Ok b) (hK : ch_K1 b) (H : post (ch_bI (ch_ck b s))) : wpX_inCheck post (xg, xm, xh, xr, b, xp, xq, xt, xv, xk, xz) (nI s) := by
  refine cx_squareOfKing hs (fun k hk e => ?_) (fun hn => ?_)
  · rw [ch_ck_k hK hs hk e] at H
    exact br_t (nI_pos' (by omega)) ⟨37, cx_ic_l hs hO hk H 36 0 rfl rfl⟩
  · rw [ch_ck_no hn] at H
    exact br_f (by decide) H
theorem cx_isMove {post : Int32 → Prop} {s f t : Nat} (hs : s < 2) (hO : ch_Ok b) (hf : f < 36) (ht : t < 36) (H : post (ch_bI (ch_mv b s f t))) : wpX_isMove post (xg, nI s, xh, xr, b, xp, xq, xt, xv, xk, xz) (nI f) (nI t) := by
  have cf : (nI f).toNatClampNeg = f := nI_clamp (by omega)
  have ct : (nI t).toNatClampNeg = t := nI_clamp (by omega)
  refine ⟨vp_in_nI ht (by decide), nm_r (e' := b t) (congrArg b ct) (cx_ownerOf (ek_if (ch_owX (hO t ht) hs) (fun z => ?_) (fun z => ⟨vp_in_nI hf (by decide), ?_⟩)))⟩
  · have e : ch_mv b s f t = false := by unfold ch_mv; rw [z]; rfl
    rw [e] at H; exact H
  · rw [cf]
    have z2 : ch_ow (b t) s = false := by
      cases h : ch_ow (b t) s with
      | false => rfl
      | true => exact absurd h z
    have h59 : ¬ (ch_kd (b f) = 1 ∧ b t = 0) → wX_isMove_59 post (nI f) (nI t) xg (nI s) xh xr b xp xq xt xv xk xz := by
      intro hn
      have e : ch_mv b s f t = ch_at b f t := by unfold ch_mv; rw [z2, if_neg hn]; rfl
      rw [e] at H
      exact cx_attacks hf ht (hO f hf) ⟨ch_narB _, H⟩
    refine cx_kindOf (hO f hf) ?_
    by_cases k : ch_kd (b f) = 1
    · refine br_t k ?_
      by_cases z3 : b t = 0
      · refine br_t z3 ?_
        unfold ch_mv at H
        rw [z2, if_pos ⟨k, z3⟩] at H
        obtain ⟨t1, t2, -, -⟩ := ch_t_f6 f hf t ht
        rcases ch_s2 hs with rfl | rfl
        · refine br_t nI_0 (ch_bX (x := decide (t = f + 6)) ?_ H)
          rw [show (1 : Int32) * 6 = 6 by decide, t1, decide_eq_true_eq]
        · refine br_f (by decide) (ch_bX (x := decide (f = t + 6)) ?_ H)
          rw [show (-1 : Int32) * 6 = -6 by decide, t2, decide_eq_true_eq]
      · exact br_f z3 (h59 fun q => z3 q.2)
    · exact br_f k (h59 fun q => k q.1)
theorem cx_nl_in {post : Int32 → SX → Prop} {J : Int32 → (Nat → Int32) → (Nat → Int32) → (Nat → Int32) → (Nat → Int32) → (Nat → Int32) → (Nat → Int32) → (Nat → Int32) → Prop} {x2 x3 : Int32} {s f : Nat} (hs : s < 2) (hO : ch_Ok b) (hK : ch_K1 b) (hf : f < 36) (ho : ch_ow (b f) s = true)
    (hJ : post (ch_hX (ch_Rl (ch_lg b s) (36 * f + 36))) (xg, nI s, xh, xr, b, xp, xq, xt, xv, xk, xz) → J (nI (f + 1)) b xp xq xt xv xk xz) :
    ∀ d t, t + d = 36 → post (ch_hX (ch_Rl (ch_lg b s) (36 * f + t))) (xg, nI s, xh, xr, b, xp, xq, xt, xv, xk, xz) → wX_nextLegal_59 post J x2 x3 (nI f) xg (nI s) xh xr (d + 1) (nI t) b xp xq xt xv xk xz := by
  have cf : (nI f).toNatClampNeg = f := nI_clamp (by omega)
  intro d
  induction d with
  | zero =>
    intro t ht H
    have e : t = 36 := by omega
    subst e
    exact br_t (nI_le (Nat.le_refl 36) (by decide)) (nm_r (nI_1 f) (hJ H))
  | succ d ih =>
    intro t ht H
    have ht6 : t < 36 := by omega
    have ct : (nI t).toNatClampNeg = t := nI_clamp (by omega)
    have hl := ch_lg_eq (b := b) (s := s) (f := f) ht6
    have hq : 36 * f + t < 1296 := by omega
    refine br_f (nI_ge (b := 36) (by omega) (by decide)) (cx_isMove hs hO hf ht6 ?_)
    cases hm : ch_mv b s f t with
    | false =>
      have e : ch_lg b s (36 * f + t) = false := by rw [hl, hm, ho]; rfl
      rw [ch_Rf hq e] at H
      exact br_t rfl (nm_r (nI_1 t) (ih (t + 1) (by omega) H))
    | true =>
      have hne : f ≠ t := by
        intro e
        unfold ch_mv at hm
        rw [← e, ho] at hm
        cases hm
      refine br_f (by decide) ⟨vp_in_nI hf (by decide), nm_r (e' := b f) (congrArg b cf) ⟨vp_in_nI ht6 (by decide), nm_r (e' := b t) (congrArg b ct) ⟨vp_in_nI hf (by decide), nm_r (e' := upd b f 0) (by rw [cf]) ⟨vp_in_nI ht6 (by decide), nm_r (e' := ch_tp b f t) (by rw [ct]; rfl) (cx_inCheck hs (ch_Ok_tp hO hf) (ch_K1_tp hK hf) ⟨vp_in_nI hf (by decide), nm_r (e' := upd (ch_tp b f t) f (b f)) (by rw [cf]) ⟨vp_in_nI ht6 (by decide), nm_r (e' := b) (by rw [ct]; exact ch_back hne) ?_⟩⟩)⟩⟩⟩⟩
      rw [ch_ck_tp hs ho]
      cases hc : ch_ck (ch_pl b s f t) s with
      | false =>
        have e : ch_lg b s (36 * f + t) = true := by rw [hl, hm, ho, hc]; rfl
        rw [ch_Rt hq e] at H
        have e2 : (nI f <<< ((6 : Int32) &&& 31)) + nI t = nI (ch_nm (36 * f + t)) := by
          rw [pk_shlN ((6 : Int32) &&& 31) 6 (by decide) (by omega), nI_add]
          unfold ch_nm
          exact congrArg nI (by omega)
        refine br_t rfl ?_
        rw [e2]
        exact H
      | true =>
        have e : ch_lg b s (36 * f + t) = false := by rw [hl, hm, ho, hc]; rfl
        rw [ch_Rf hq e] at H
        exact br_f (by decide) (nm_r (nI_1 t) (ih (t + 1) (by omega) H))
theorem cx_nl_out {post : Int32 → SX → Prop} {s f0 t0 : Nat} (hs : s < 2) (hO : ch_Ok b) (hK : ch_K1 b) (hf0 : f0 ≤ 36) (ht0 : t0 ≤ 36) :
    ∀ d f, f + d = 36 → post (ch_hX (ch_Rl (ch_lg b s) (36 * f + if f = f0 then t0 else 0))) (xg, nI s, xh, xr, b, xp, xq, xt, xv, xk, xz) → f0 ≤ f → wX_nextLegal_12 post (nI (64 * f0 + t0)) (nI f0) xg (nI s) xh xr (d + 1) (nI f) b xp xq xt xv xk xz := by
  intro d
  induction d with
  | zero =>
    intro f hf H h0
    have e : f = 36 := by omega
    subst e
    rw [ch_Re (by omega)] at H
    exact br_t (nI_le (Nat.le_refl 36) (by decide)) H
  | succ d ih =>
    intro f hf H h0
    have hf6 : f < 36 := by omega
    have cf : (nI f).toNatClampNeg = f := nI_clamp (by omega)
    have hJ : post (ch_hX (ch_Rl (ch_lg b s) (36 * f + 36))) (xg, nI s, xh, xr, b, xp, xq, xt, xv, xk, xz) → wX_nextLegal_12 post (nI (64 * f0 + t0)) (nI f0) xg (nI s) xh xr (d + 1) (nI (f + 1)) b xp xq xt xv xk xz := by
      intro hp
      refine ih (f + 1) (by omega) ?_ (by omega)
      rw [if_neg (show ¬ f + 1 = f0 by omega), show 36 * (f + 1) + 0 = 36 * f + 36 by omega]
      exact hp
    refine br_f (nI_ge (b := 36) (by omega) (by decide)) ⟨vp_in_nI hf6 (by decide), ?_⟩
    rw [cf]
    refine cx_ownerOf (ek_if (d := ch_ow (b f) s = true) (ch_owX (hO f hf6) hs) (fun z => ?_) (fun z => nm_r (nI_1 f) (hJ ?_)))
    · by_cases e : f = f0
      · rw [if_pos e] at H
        refine br_t (by rw [e]) (nm_r (e' := nI t0) ?_ ⟨36 - t0 + 1, cx_nl_in hs hO hK hf6 z hJ (36 - t0) t0 (by omega) H⟩)
        rw [pk_andN (by omega) 6 (by decide)]
        exact congrArg nI (by omega)
      · rw [if_neg e] at H
        exact br_f (fun q => e ((nI_eq (by omega) (by omega)).mp q)) ⟨37, cx_nl_in hs hO hK hf6 z hJ 36 0 (by omega) H⟩
    · rw [← ch_Rskip (g := ch_lg b s) (q := 36 * f + if f = f0 then t0 else 0) (p := 36 * f + 36) (by split <;> omega) (by omega) fun j h1 h2 => ?_]
      · exact H
      · have e1 : 36 * f ≤ j := by
          have : 36 * f ≤ 36 * f + (if f = f0 then t0 else 0) := Nat.le_add_right _ _
          omega
        obtain ⟨t, rfl⟩ : ∃ t, j = 36 * f + t := ⟨j - 36 * f, by omega⟩
        have e2 : ch_ow (b f) s = false := by
          cases h : ch_ow (b f) s with
          | false => rfl
          | true => exact absurd h z
        rw [ch_lg_eq (by omega), e2]
        rfl
theorem cx_nextLegal {post : Int32 → SX → Prop} {s f0 t0 : Nat} {a : Int32} (hs : s < 2) (hO : ch_Ok b) (hK : ch_K1 b) (ha : a + 1 = nI (64 * f0 + t0)) (hf0 : f0 < 36) (ht0 : t0 ≤ 36) (H : post (ch_hX (ch_Rl (ch_lg b s) (36 * f0 + t0))) (xg, nI s, xh, xr, b, xp, xq, xt, xv, xk, xz)) : wpX_nextLegal post (xg, nI s, xh, xr, b, xp, xq, xt, xv, xk, xz) a := by
  refine nm_r (e' := nI (64 * f0 + t0)) ha (nm_r (e' := nI f0) ?_ ⟨36 - f0 + 1, cx_nl_out hs hO hK (by omega) ht0 (36 - f0) f0 (by omega) ?_ (Nat.le_refl f0)⟩)
  · rw [pk_shrN (by omega) ((6 : Int32) &&& 31) 6 (by decide)]
    exact congrArg nI (by omega)
  · rw [if_pos rfl]; exact H
theorem cx_nl_0 {post : Int32 → SX → Prop} {s : Nat} (hs : s < 2) (hO : ch_Ok b) (hK : ch_K1 b) (H : post (ch_hX (ch_L b s)) (xg, nI s, xh, xr, b, xp, xq, xt, xv, xk, xz)) : wpX_nextLegal post (xg, nI s, xh, xr, b, xp, xq, xt, xv, xk, xz) (-1) :=
  cx_nextLegal (f0 := 0) (t0 := 0) hs hO hK (by decide) (by decide) (by decide) H
theorem cx_nl_p {post : Int32 → SX → Prop} {s p : Nat} (hs : s < 2) (hO : ch_Ok b) (hK : ch_K1 b) (hp : p < 1296) (H : post (ch_hX (ch_Rl (ch_lg b s) (p + 1))) (xg, nI s, xh, xr, b, xp, xq, xt, xv, xk, xz)) : wpX_nextLegal post (xg, nI s, xh, xr, b, xp, xq, xt, xv, xk, xz) (nI (ch_nm p)) := by
  refine cx_nextLegal (f0 := p / 36) (t0 := p % 36 + 1) hs hO hK ?_ (by omega) (by omega) ?_
  · rw [nI_1]; unfold ch_nm; exact congrArg nI (by omega)
  · rw [show 36 * (p / 36) + (p % 36 + 1) = p + 1 by omega]; exact H
theorem cx_isLegal {post : Int32 → SX → Prop} {s f t : Nat} (hs : s < 2) (hO : ch_Ok b) (hK : ch_K1 b) (hf : f < 36) (ht : t < 36) (H : post (ch_bI (ch_lp b s f t)) (xg, nI s, xh, xr, b, xp, xq, xt, xv, xk, xz)) : wpX_isLegal post (xg, nI s, xh, xr, b, xp, xq, xt, xv, xk, xz) (nI f) (nI t) := by
  have e0 : (nI f <<< ((6 : Int32) &&& 31)) + nI t = nI (64 * f + t) := by
    rw [pk_shlN ((6 : Int32) &&& 31) 6 (by decide) (by omega), nI_add]
    exact congrArg nI (by omega)
  have el : ch_lg b s (36 * f + t) = ch_lp b s f t := by
    unfold ch_lg
    rw [show (36 * f + t) / 36 = f by omega, show (36 * f + t) % 36 = t by omega]
  unfold wpX_isLegal
  dsimp only
  refine cx_sq_in hf ?_
  refine br_f (by decide) ?_
  refine cx_sq_in ht ?_
  refine br_f (by decide) (nm_r e0 ?_)
  refine cx_nextLegal hs hO hK (f0 := f) (t0 := t) ?_ hf (by omega) ?_
  · rw [Int32.sub_add_cancel]
  · dsimp only
    cases hl : ch_lp b s f t with
    | true =>
      rw [hl] at H
      rw [ch_Rt (by omega) (el.trans hl)]
      refine br_t ?_ H
      show nI (ch_nm (36 * f + t)) = _
      unfold ch_nm
      exact congrArg nI (by omega)
    | false =>
      rw [hl] at H
      refine br_f ?_ H
      rw [ch_Rf (by omega) (el.trans hl)]
      intro q
      cases hr : ch_Rl (ch_lg b s) (36 * f + t + 1) with
      | nil =>
        rw [hr] at q
        have h1 : (-1 : Int32).toInt = (nI (64 * f + t)).toInt := congrArg Int32.toInt q
        rw [nI_toInt (by omega), show (-1 : Int32).toInt = -1 by decide] at h1
        omega
      | cons p r =>
        rw [hr] at q
        obtain ⟨h1, h2, -⟩ := ch_Rcons _ _ rfl p r hr
        have h3 := (nI_eq (by have := ch_nm_lt h2; omega) (by omega)).mp q
        unfold ch_nm at h3
        omega
end
end
section
/-! the reference: attacks, check, moves -/
theorem ch_aY {post : Int32 → Prop} {A B : Prop} {x : Bool} (h2 : (A ∧ B) ↔ x = true) (h : post (ch_bI x)) : (A → ((B → post 1) ∧ (¬ B → post 0))) ∧ (¬ A → post 0) := by
  cases x with
  | true => have q := h2.mpr rfl; exact br_t q.1 (br_t q.2 h)
  | false => exact br_c (fun a => br_f (fun c => Bool.noConfusion (h2.mp ⟨a, c⟩)) h) (fun _ => h)
theorem ch_abX {P : Int32 → Prop} {x : Int32} (h : P (ch_ab x)) : (0 ≤ x → P x) ∧ (¬ 0 ≤ x → P (-x)) := by
  unfold ch_ab at h
  by_cases h1 : x < 0
  · rw [if_pos h1] at h; exact br_f (Int32.not_le.mpr h1) h
  · rw [if_neg h1] at h; exact br_t (Int32.not_lt.mp h1) h
theorem ch_q_next (f t i : Nat) : ch_qI f t i + ch_sp f t = ch_qI f t (i + 1) := by
  unfold ch_qI
  rw [← nI_1, Int32.add_mul, Int32.one_mul, Int32.add_assoc]
theorem ch_q_1 (f t : Nat) : nI f + ch_sp f t = ch_qI f t 1 := by
  unfold ch_qI
  rw [show nI 1 = 1 from rfl, Int32.one_mul]
/-- a pawn goes forward: the end row that it meets is its own -/
theorem ch_pc_eq {b : Nat → Int32} {s f t : Nat} (hs : s < 2) (hf : f < 36) (ht : t < 36) (hb : ch_ok (b f)) (hc : ch_cg b s f t = true) : ch_pc b s f t = if (b f = 1 ∧ 30 ≤ t) ∨ (b f = 9 ∧ t < 6) then b f + 4 else b f := by
  have ho := (ch_cg_ow hc).1
  have hg : ch_kd (b f) = 1 → (if s = 0 then t = f + 6 else f = t + 6) ∨ ch_pa (ch_sd (b f)) f t = true := by
    intro k
    unfold ch_cg at hc
    rw [Bool.and_eq_true, Bool.and_eq_true] at hc
    obtain ⟨-, -, h3⟩ := hc
    by_cases k2 : ch_kd (b f) = 1 ∧ b t = 0
    · rw [if_pos k2] at h3
      refine Or.inl ?_
      split at h3
      · rename_i e; rw [if_pos e]; exact of_decide_eq_true h3
      · rename_i e; rw [if_neg e]; exact of_decide_eq_true h3
    · rw [if_neg k2] at h3
      refine Or.inr ?_
      unfold ch_at at h3
      rw [if_pos k] at h3
      exact h3
  unfold ch_pc
  by_cases k : ch_kd (b f) = 1
  · have hg := hg k
    obtain ⟨e1, e2⟩ := ch_t_end f hf t ht
    rcases (ch_kd1 hb).mp k with c | c
    · have es : s = 0 := by
        rcases ch_s2 hs with e | e
        · exact e
        · rw [c, e] at ho; exact absurd ho (by decide)
      subst es
      rw [c] at hg k ⊢
      have hn : ¬ t < 6 := e1 (by rcases hg with g | g; exact Or.inl g; exact Or.inr g)
      by_cases h30 : 30 ≤ t
      · rw [if_pos ⟨k, Or.inr h30⟩, if_pos (Or.inl ⟨rfl, h30⟩)]; decide
      · rw [if_neg (by omega), if_neg (by omega)]
    · have es : s = 1 := by
        rcases ch_s2 hs with e | e
        · rw [c, e] at ho; exact absurd ho (by decide)
        · exact e
      subst es
      rw [c] at hg k ⊢
      have hn : ¬ 30 ≤ t := e2 (by rcases hg with g | g; exact Or.inl g; exact Or.inr g)
      by_cases h6 : t < 6
      · rw [if_pos ⟨k, Or.inl h6⟩, if_pos (Or.inr ⟨rfl, h6⟩)]; decide
      · rw [if_neg (by omega), if_neg (by omega)]
  · rw [if_neg (fun q => k q.1), if_neg]
    rintro (⟨c, -⟩ | ⟨c, -⟩)
    · exact k ((ch_kd1 hb).mpr (Or.inl c))
    · exact k ((ch_kd1 hb).mpr (Or.inr c))
section
variable {yg ym yh yl ya yb : Int32} {b yF yT yM yC yp yt yz : Nat → Int32}
theorem cy_sq_in {post : Int32 → Prop} {j : Nat} (hj : j < 36) (h : post 1) : wpY_isSquare post (yg, ym, yh, yl, ya, yb, b, yF, yT, yM, yC, yp, yt, yz) (nI j) :=
  br_f (nI_pos (by omega)) (br_f (nI_nlt (a := 35) (b := j) (by omega) (by decide)) h)
theorem cy_sq_out {post : Int32 → Prop} {x : Int32} (hx : x < 0 ∨ nI 36 ≤ x) (h : post 0) : wpY_isSquare post (yg, ym, yh, yl, ya, yb, b, yF, yT, yM, yC, yp, yt, yz) x := by
  unfold wpY_isSquare
  dsimp only
  by_cases h0 : x < 0
  · exact br_t h0 h
  · refine br_f h0 (br_t ?_ h)
    have h1 := hx.resolve_left h0
    exact Int32.lt_of_lt_of_le (show (35 : Int32) < nI 36 by decide) h1
theorem cy_kind {post : Int32 → Prop} {c : Int32} (h : post (ch_kd c)) : wpY_kind post (yg, ym, yh, yl, ya, yb, b, yF, yT, yM, yC, yp, yt, yz) c := by
  unfold wpY_kind
  dsimp only
  unfold ch_kd at h
  by_cases e : 8 < c
  · rw [if_pos e] at h; exact br_f (Int32.not_le.mpr e) h
  · rw [if_neg e] at h; exact br_t (Int32.not_lt.mp e) h
theorem cy_isOf {post : Int32 → Prop} {c : Int32} {s : Nat} (hs : s < 2) (h : post (ch_bI (ch_ow c s))) : wpY_isOf post (yg, ym, yh, yl, ya, yb, b, yF, yT, yM, yC, yp, yt, yz) c (nI s) := by
  unfold wpY_isOf
  dsimp only
  by_cases e : c = 0
  · rw [e, ch_ow_0] at h; exact br_t e h
  · refine br_f e ?_
    rcases ch_s2 hs with rfl | rfl
    · refine br_t nI_0 ?_
      by_cases e8 : c < 8
      · have q : ch_ow c 0 = true := by simp [ch_ow, e, e8]
        rw [q] at h
        exact br_f (Int32.not_le.mpr e8) h
      · have q : ch_ow c 0 = false := by simp [ch_ow, e, e8]
        rw [q] at h
        exact br_t (Int32.not_lt.mp e8) h
    · refine br_f (by decide) ?_
      by_cases e8 : 8 < c
      · have q : ch_ow c 1 = true := by simp [ch_ow, e8]
        rw [q] at h
        exact br_f (Int32.not_le.mpr e8) h
      · have q : ch_ow c 1 = false := by simp [ch_ow, e8]
        rw [q] at h
        exact br_t (Int32.not_lt.mp e8) h
theorem cy_pc_l {post : Int32 → Prop} (H : post (nI (ch_nz b))) : ∀ d j, j + d = 36 → wY_pieces_4 post yg ym yh yl ya yb b yF yT yM yC yp yt yz (d + 1) (nI (ch_ct (fun i => !decide (b i = 0)) j)) (nI j) := by
  intro d
  induction d with
  | zero =>
    intro j hj
    have e : j = 36 := by omega
    subst e
    exact br_t (nI_le (Nat.le_refl 36) (by decide)) H
  | succ d ih =>
    intro j hj
    have cl : (nI j).toNatClampNeg = j := nI_clamp (by omega)
    have h1 := ih (j + 1) (by omega)
    refine br_f (nI_ge (b := 36) (by omega) (by decide)) ⟨vp_in_nI (by omega) (by decide), ek_if (d := b j = 0) (by rw [cl]) (fun z => nm_r (nI_1 j) ?_) (fun z => nm_r (nI_1 _) (nm_r (nI_1 j) ?_))⟩
    · rw [ch_ct_f (by simp [z])] at h1; exact h1
    · rw [ch_ct_t (by simp [z])] at h1; exact h1
theorem cy_pieces {post : Int32 → Prop} (H : post (nI (ch_nz b))) : wpY_pieces post (yg, ym, yh, yl, ya, yb, b, yF, yT, yM, yC, yp, yt, yz) := ⟨37, cy_pc_l H 36 0 rfl⟩
theorem cy_sign {post : Int32 → Prop} {x : Int32} (h : post (ch_sg x)) : wpY_sign post (yg, ym, yh, yl, ya, yb, b, yF, yT, yM, yC, yp, yt, yz) x := by
  unfold wpY_sign
  dsimp only
  unfold ch_sg at h
  by_cases h1 : 0 < x
  · rw [if_pos h1] at h
    exact br_t (Int32.le_of_lt h1) (br_f (Int32.not_le.mpr h1) h)
  · rw [if_neg h1] at h
    by_cases h2 : x < 0
    · rw [if_pos h2] at h
      exact br_f (Int32.not_le.mpr h2) h
    · rw [if_neg h2] at h
      exact br_t (Int32.not_lt.mp h2) (br_t (Int32.not_lt.mp h1) h)
theorem cy_cl_l {post : Int32 → Prop} {f t : Nat} (hf : f < 36) (ht : t < 36) (hq : ch_qn f t = true) (H : post (ch_bI (ch_cl b f t))) : ∀ d j, j + 1 + d = ch_ln f t → (∀ i, 1 ≤ i → i < j + 1 → b (ch_sq f t i) = 0) → wY_isClear_26 post (nI t) (ch_sp f t) yg ym yh yl ya yb b yF yT yM yC yp yt yz (d + 1) (ch_qI f t (j + 1)) (nI j) := by
  have hl := (ch_t_ln f hf t ht).2.1
  intro d
  induction d with
  | zero =>
    intro j hj h3
    have e := (ch_t_to f hf t ht hq (j + 1) (by omega) (by omega)).mpr (by omega)
    have e2 : ch_cl b f t = true := ch_cl_iff.mpr fun i a c => h3 i a (by omega)
    rw [e2] at H
    exact br_f (nI_ge (b := 6) (by omega) (by decide)) (br_t e H)
  | succ d ih =>
    intro j hj h3
    have e : ¬ ch_qI f t (j + 1) = nI t := fun z => by have := (ch_t_to f hf t ht hq (j + 1) (by omega) (by omega)).mp z; omega
    have hs := ch_sq_lt (f := f) (t := t) (i := j + 1) hf ht (by omega)
    refine br_f (nI_ge (b := 6) (by omega) (by decide)) (br_f e ⟨hs.2.1, ?_⟩)
    by_cases z : b (ch_sq f t (j + 1)) = 0
    · refine br_t z (nm_r (ch_q_next f t (j + 1)) (nm_r (nI_1 j) (ih (j + 1) (by omega) fun i a c => ?_)))
      by_cases e3 : i = j + 1
      · rw [e3]; exact z
      · exact h3 i a (by omega)
    · have e2 : ch_cl b f t = false := by
        cases hc : ch_cl b f t with
        | false => rfl
        | true => exact absurd (ch_cl_iff.mp hc (j + 1) (by omega) (by omega)) z
      rw [e2] at H
      exact br_f z H
theorem cy_isClear {post : Int32 → Prop} {f t : Nat} (hf : f < 36) (ht : t < 36) (hq : ch_qn f t = true) (H : post (ch_bI (ch_lo b f t))) : wpY_isClear post (yg, ym, yh, yl, ya, yb, b, yF, yT, yM, yC, yp, yt, yz) (nI f) (nI t) (ch_R f t) (ch_C f t) := by
  have h0 : 0 < ch_ln f t := by
    have h1 := (ch_t_ln f hf t ht).2.2
    have h2 : ¬ f = t := by intro e; unfold ch_qn at hq; rw [decide_eq_true e] at hq; simp at hq
    omega
  have e : ch_lo b f t = ch_cl b f t := by unfold ch_lo; rw [decide_eq_true h0]; rfl
  rw [e] at H
  unfold wpY_isClear
  dsimp only
  refine cy_sign ?_
  refine cy_sign ?_
  refine nm_r (e' := ch_sp f t) ?_ (nm_r (e' := ch_qI f t 1) (ch_q_1 f t) ⟨ch_ln f t - 1 + 1, cy_cl_l hf ht hq H (ch_ln f t - 1) 0 (by omega) (fun i a c => by omega)⟩)
  unfold ch_sp
  rw [Int32.mul_comm]
theorem cy_at57 {post : Int32 → Prop} {f t : Nat} (hf : f < 36) (ht : t < 36) (hb : ch_ok (b f)) (H : post (ch_bI (ch_at b f t))) : wY_attacks_57 post (nI f) (nI t) (b f) (ch_R f t) (ch_C f t) (ch_ab (ch_R f t)) (ch_ab (ch_C f t)) yg ym yh yl ya yb b yF yT yM yC yp yt yz := by
  by_cases z : b f = 0
  · have e : ch_at b f t = false := by unfold ch_at; rw [z, ch_kd_0]; rfl
    rw [e] at H
    exact br_t z H
  · refine br_f z ?_
    by_cases ef : f = t
    · rw [← ef, ch_at_self hf] at H
      exact br_t (by rw [ef]) H
    · have en : ¬ nI f = nI t := fun q => ef ((nI_eq (by omega) (by omega)).mp q)
      refine br_f en (cy_kind ?_)
      have tdg := ch_t_dg f hf t ht
      have tsr := ch_t_sr f hf t ht
      rcases ch_kd_ne hb z with k | k | k | k | k | k
      · have e : ch_at b f t = ch_pa (ch_sd (b f)) f t := by unfold ch_at; rw [if_pos k]
        rw [k]
        rw [e] at H
        refine br_f (by decide) (br_f (by decide) (br_t rfl ?_))
        by_cases h8 : b f < 8
        · rw [(ch_sd8 (b f)).mp h8] at H
          exact br_f (Int32.not_le.mpr h8) (ch_aY (ch_t_pa0 f hf t ht) H)
        · have h1 : ch_sd (b f) = 1 := by unfold ch_sd; rw [if_neg h8]
          rw [h1] at H
          exact br_t (Int32.not_lt.mp h8) (ch_aY (ch_t_pa1 f hf t ht) H)
      · have e : ch_at b f t = ch_kn f t := by unfold ch_at; rw [k]; rfl
        rw [k]
        rw [e] at H
        exact br_f (by decide) (br_f (by decide) (br_f (by decide) (br_t rfl (ch_bX (ch_t_kn f hf t ht) H))))
      · have e : ch_at b f t = (ch_dg f t && ch_lo b f t) := by unfold ch_at; rw [k]; rfl
        rw [k]
        rw [e] at H
        refine br_f (by decide) (br_f (by decide) (br_f (by decide) (br_f (by decide) (br_t rfl ?_))))
        cases hd : ch_dg f t with
        | false => rw [hd] at H tdg; exact br_f (fun q => Bool.noConfusion (tdg.mp q)) H
        | true => rw [hd] at H tdg; exact br_t (tdg.mpr rfl) (cy_isClear hf ht (by unfold ch_qn; rw [hd]; simp [ef]) (ch_rX H))
      · have e : ch_at b f t = (ch_sr f t && ch_lo b f t) := by unfold ch_at; rw [k]; rfl
        rw [k]
        rw [e] at H
        refine br_f (by decide) (br_f (by decide) (br_f (by decide) (br_f (by decide) (br_f (by decide) (br_t rfl ?_)))))
        cases hd : ch_sr f t with
        | false =>
          rw [hd] at H tsr
          exact br_f (fun q => Bool.noConfusion (tsr.mp (Or.inl q))) (br_f (fun q => Bool.noConfusion (tsr.mp (Or.inr q))) H)
        | true =>
          rw [hd] at H tsr
          have h9 : wY_attacks_209 post (nI f) (nI t) (ch_R f t) (ch_C f t) yg ym yh yl ya yb b yF yT yM yC yp yt yz := cy_isClear hf ht (by unfold ch_qn; rw [hd]; simp [ef]) (ch_rX H)
          by_cases q : ch_ab (ch_R f t) = 0
          · exact br_t q h9
          · exact br_f q (br_t ((tsr.mpr rfl).resolve_left q) h9)
      · have e : ch_at b f t = ((ch_sr f t || ch_dg f t) && ch_lo b f t) := by unfold ch_at; rw [k]; rfl
        rw [k]
        rw [e] at H
        refine br_f (by decide) (br_f (by decide) (br_f (by decide) (br_f (by decide) (br_f (by decide) (br_f (by decide) (br_t rfl ?_))))))
        cases hq : (ch_sr f t || ch_dg f t) with
        | false =>
          rw [hq] at H
          rw [Bool.or_eq_false_iff] at hq
          rw [hq.1] at tsr
          rw [hq.2] at tdg
          exact br_f (fun q => Bool.noConfusion (tdg.mp q)) (br_f (fun q => Bool.noConfusion (tsr.mp (Or.inl q))) (br_f (fun q => Bool.noConfusion (tsr.mp (Or.inr q))) H))
        | true =>
          rw [hq] at H
          have h9 : wY_attacks_245 post (nI f) (nI t) (ch_R f t) (ch_C f t) yg ym yh yl ya yb b yF yT yM yC yp yt yz := cy_isClear hf ht (by unfold ch_qn; rw [hq]; simp [ef]) (ch_rX H)
          by_cases q1 : ch_ab (ch_R f t) = ch_ab (ch_C f t)
          · exact br_t q1 h9
          · refine br_f q1 ?_
            have hd : ch_dg f t = false := by
              cases hd : ch_dg f t with
              | false => rfl
              | true => exact absurd (tdg.mpr hd) q1
            rw [hd, Bool.or_false] at hq
            by_cases q : ch_ab (ch_R f t) = 0
            · exact br_t q h9
            · exact br_f q (br_t ((tsr.mpr hq).resolve_left q) h9)
      · have e : ch_at b f t = ch_kk f t := by unfold ch_at; rw [k]; rfl
        rw [k]
        rw [e] at H
        refine br_f (by decide) (br_f (by decide) (br_f (by decide) (br_f (by decide) (br_f (by decide) (br_f (by decide) (br_f (by decide) (br_t rfl ?_)))))))
        have tk := ch_t_kk f hf t ht ef
        cases hk : ch_kk f t with
        | true =>
          rw [hk] at H tk
          have q := tk.mpr rfl
          exact br_f (Int32.not_lt.mpr q.1) (br_f (Int32.not_lt.mpr q.2) H)
        | false =>
          rw [hk] at H tk
          exact br_c (fun _ => H) (fun q1 => br_c (fun _ => H) (fun q2 => Bool.noConfusion (tk.mp ⟨Int32.not_lt.mp q1, Int32.not_lt.mp q2⟩)))
theorem cy_attacks {post : Int32 → Prop} {f t : Nat} (hf : f < 36) (ht : t < 36) (hb : ch_ok (b f)) (H : post (ch_bI (ch_at b f t))) : wpY_attacks post (yg, ym, yh, yl, ya, yb, b, yF, yT, yM, yC, yp, yt, yz) (nI f) (nI t) := by
  have h57 := cy_at57 (yg := yg) (ym := ym) (yh := yh) (yl := yl) (ya := ya) (yb := yb) (yF := yF) (yT := yT) (yM := yM) (yC := yC) (yp := yp) (yt := yt) (yz := yz) hf ht hb H
  have h42 : wY_attacks_42 post (nI f) (nI t) (b f) (ch_R f t) (ch_C f t) (ch_ab (ch_R f t)) yg ym yh yl ya yb b yF yT yM yC yp yt yz := ch_abX (P := fun z => wY_attacks_57 post (nI f) (nI t) (b f) (ch_R f t) (ch_C f t) (ch_ab (ch_R f t)) z yg ym yh yl ya yb b yF yT yM yC yp yt yz) h57
  exact ⟨vp_in_nI hf (by decide), nm_r (e' := b f) (congrArg b (nI_clamp (by omega))) ⟨by decide, by decide, nm_r (e' := ch_R f t) rfl ⟨by decide, by decide, nm_r (e' := ch_C f t) rfl (ch_abX (P := fun z => wY_attacks_42 post (nI f) (nI t) (b f) (ch_R f t) (ch_C f t) z yg ym yh yl ya yb b yF yT yM yC yp yt yz) h42)⟩⟩⟩
end
end
section
/-! the reference: check, moves made and taken back, legal moves -/
theorem ch_mu {s : Nat} (hs : s < 2) : (1 : Int32) - nI (1 - s) = nI s := by
  rw [ch_s4 (by omega), ch_s3 hs]
theorem ch_d36 {p : Nat} (h : p < 1296) : nI p / 36 = nI (p / 36) := pk_div (d := 36) (by omega) (by decide) (by decide)
theorem ch_r36 {p : Nat} (h : p < 1296) : nI p - nI p / 36 * 36 = nI (p % 36) := pk_rem (d := 36) (by omega) (by decide) (by decide)
theorem ch_cg_mv (b : Nat → Int32) (s f t : Nat) : ch_cg b s f t = (ch_ow (b f) s && ch_mv b s f t) := rfl
section
variable {yg ym yh yl ya yb : Int32} {b yF yT yM yC yp yt yz : Nat → Int32}
theorem cy_ao_l {post : Int32 → Prop} {s k : Nat} (hs : s < 2) (hO : ch_Ok b) (hk : k < 36) (H : post (nI (ch_aa b k s))) : ∀ d j, j + d = 36 → wY_attackersOf_5 post (nI k) (nI s) yg ym yh yl ya yb b yF yT yM yC yp yt yz (d + 1) (nI (ch_ct (fun f => ch_ow (b f) s && ch_at b f k) j)) (nI j) := by
  intro d
  induction d with
  | zero =>
    intro j hj
    have e : j = 36 := by omega
    subst e
    exact br_t (nI_le (Nat.le_refl 36) (by decide)) H
  | succ d ih =>
    intro j hj
    have cl : (nI j).toNatClampNeg = j := nI_clamp (by omega)
    have h1 := ih (j + 1) (by omega)
    refine br_f (nI_ge (b := 36) (by omega) (by decide)) ⟨vp_in_nI (by omega) (by decide), ?_⟩
    rw [cl]
    refine cy_isOf hs ?_
    cases ho : ch_ow (b j) s with
    | false =>
      rw [ch_ct_f (by simp [ho])] at h1
      exact br_t rfl (nm_r (nI_1 j) h1)
    | true =>
      refine br_f (by decide) (cy_attacks (by omega) hk (hO j (by omega)) ?_)
      cases ha : ch_at b j k with
      | false =>
        rw [ch_ct_f (by simp [ha])] at h1
        exact br_t rfl (nm_r (nI_1 j) h1)
      | true =>
        rw [ch_ct_t (by simp [ha, ho])] at h1
        exact br_f (by decide) (nm_r (nI_1 _) (nm_r (nI_1 j) h1))
theorem cy_attackersOf {post : Int32 → Prop} {s k : Nat} (hs : s < 2) (hO : ch_Ok b) (hk : k < 36) (H : post (nI (ch_aa b k s))) : wpY_attackersOf post (yg, ym, yh, yl, ya, yb, b, yF, yT, yM, yC, yp, yt, yz) (nI k) (nI s) := ⟨37, cy_ao_l hs hO hk H 36 0 rfl⟩
theorem cy_ks_l {post : Int32 → Prop} {s : Nat} (hs : s < 2) (H : post (nI (ch_ct (fun i => decide (b i = ch_kg s)) 36))) : ∀ d j, j + d = 36 → wY_kings_4 post (nI s) yg ym yh yl ya yb b yF yT yM yC yp yt yz (d + 1) (nI (ch_ct (fun i => decide (b i = ch_kg s)) j)) (nI j) := by
  intro d
  induction d with
  | zero =>
    intro j hj
    have e : j = 36 := by omega
    subst e
    exact br_t (nI_le (Nat.le_refl 36) (by decide)) H
  | succ d ih =>
    intro j hj
    have cl : (nI j).toNatClampNeg = j := nI_clamp (by omega)
    have h1 := ih (j + 1) (by omega)
    refine br_f (nI_ge (b := 36) (by omega) (by decide)) ⟨vp_in_nI (by omega) (by decide), ek_if (d := b j = ch_kg s) (by rw [cl, ch_kgY hs]) (fun z => nm_r (nI_1 _) (nm_r (nI_1 j) ?_)) (fun z => nm_r (nI_1 j) ?_)⟩
    · rw [ch_ct_t (by simp [z])] at h1; exact h1
    · rw [ch_ct_f (by simp [z])] at h1; exact h1
theorem cy_kings {post : Int32 → Prop} {s : Nat} (hs : s < 2) (H : post (nI (ch_ct (fun i => decide (b i = ch_kg s)) 36))) : wpY_kings post (yg, ym, yh, yl, ya, yb, b, yF, yT, yM, yC, yp, yt, yz) (nI s) := ⟨37, cy_ks_l hs H 36 0 rfl⟩
theorem cy_ic_l {post : Int32 → Prop} {s : Nat} (hs : s < 2) (hO : ch_Ok b) (H : post (ch_bI (ch_ck b s))) : ∀ d j, j + d = 36 → (∀ k, k < j → b k = ch_kg s → ¬ 0 < ch_aa b k (1 - s)) → wY_inCheck_2 post (nI s) yg ym yh yl ya yb b yF yT yM yC yp yt yz (d + 1) (nI j) := by
  intro d
  induction d with
  | zero =>
    intro j hj h0
    have e : j = 36 := by omega
    subst e
    have e2 : ch_ck b s = false := by
      cases hc : ch_ck b s with
      | false => rfl
      | true =>
        obtain ⟨k, h1, h2, h3⟩ := ch_ck_iff.mp hc
        exact absurd (ch_aa_iff.mpr h3) (h0 k h1 h2)
    rw [e2] at H
    exact br_t (nI_le (Nat.le_refl 36) (by decide)) H
  | succ d ih =>
    intro j hj h0
    have cl : (nI j).toNatClampNeg = j := nI_clamp (by omega)
    have hn : (b j = ch_kg s → ¬ 0 < ch_aa b j (1 - s)) → wY_inCheck_2 post (nI s) yg ym yh yl ya yb b yF yT yM yC yp yt yz (d + 1) (nI (j + 1)) := by
      intro hn
      refine ih (j + 1) (by omega) fun k hk => ?_
      by_cases e : k = j
      · rw [e]; exact hn
      · exact h0 k (by omega)
    refine br_f (nI_ge (b := 36) (by omega) (by decide)) ⟨vp_in_nI (by omega) (by decide), ek_if (d := b j = ch_kg s) (by rw [cl, ch_kgY hs]) (fun z => ?_) (fun z => nm_r (nI_1 j) (hn fun q => absurd q z))⟩
    rw [ch_s4 hs]
    refine cy_attackersOf (by omega) hO (by omega) ?_
    have h36 : ch_aa b j (1 - s) ≤ 36 := ch_ct_le _ 36
    by_cases h : 0 < ch_aa b j (1 - s)
    · have e2 : ch_ck b s = true := ch_ck_iff.mpr ⟨j, by omega, z, ch_aa_iff.mp h⟩
      rw [e2] at H
      exact br_f (nI_nle h (by omega)) H
    · have e : ch_aa b j (1 - s) = 0 := by omega
      rw [e]
      exact br_t (nI_le (Nat.le_refl 0) (by decide)) (nm_r (nI_1 j) (hn fun _ => h))
theorem cy_inCheck {post : Int32 → Prop} {s : Nat} (hs : s < 2) (hO : ch_Ok b) (H : post (ch_bI (ch_ck b s))) : wpY_inCheck post (yg, ym, yh, yl, ya, yb, b, yF, yT, yM, yC, yp, yt, yz) (nI s) := ⟨37, cy_ic_l hs hO H 36 0 rfl (fun k hk => absurd hk (Nat.not_lt_zero k))⟩
theorem cy_doMove {post : SY → Prop} {s f t h : Nat} (hs : s < 2) (hO : ch_Ok b) (hf : f < 36) (ht : t < 36) (hh : h < 70) (hc : ch_cg b s f t = true)
    (H : post (yg, nI (1 - s), nI (h + 1), yl, ya, yb, ch_pl b s f t, upd yF h (nI f), upd yT h (nI t), upd yM h (b f), upd yC h (b t), yp, yt, yz)) : wpY_doMove post (yg, nI s, nI h, yl, ya, yb, b, yF, yT, yM, yC, yp, yt, yz) (nI f) (nI t) := by
  have cf : (nI f).toNatClampNeg = f := nI_clamp (by omega)
  have ct : (nI t).toNatClampNeg = t := nI_clamp (by omega)
  have ch : (nI h).toNatClampNeg = h := nI_clamp (by omega)
  have hv : vp_in (nI h) 70 := vp_in_nI hh (by decide)
  obtain ⟨ho, -, hne⟩ := ch_cg_ow hc
  have h102 : wY_doMove_102 post (nI f) (ch_pc b s f t) (nI t) yg (nI s) (nI h) yl ya yb b (upd yF h (nI f)) (upd yT h (nI t)) (upd yM h (b f)) (upd yC h (b t)) yp yt yz :=
    ⟨vp_in_nI ht (by decide), nm_r (e' := upd b t (ch_pc b s f t)) (by rw [ct]) ⟨vp_in_nI hf (by decide), nm_r (e' := ch_pl b s f t) (by rw [cf]; exact ch_uc (fun e => hne e.symm)) (nm_r (nI_1 h) (nm_r (ch_s4 hs) H))⟩⟩
  rw [ch_pc_eq hs hf ht (hO f hf) hc] at h102
  obtain ⟨r1, r2, -, -⟩ := ch_t_row t ht
  refine ⟨vp_in_nI hf (by decide), nm_r (e' := b f) (congrArg b cf) ⟨hv, nm_r (e' := upd yF h (nI f)) (by rw [ch]) ⟨hv, nm_r (e' := upd yT h (nI t)) (by rw [ch]) ⟨hv, nm_r (e' := upd yM h (b f)) (by rw [ch]) ⟨vp_in_nI ht (by decide), hv, nm_r (e' := upd yC h (b t)) (by rw [ch, ct]) ?_⟩⟩⟩⟩⟩
  by_cases c1 : b f = 1
  · refine br_t c1 ⟨by decide, ?_⟩
    by_cases q : 30 ≤ t
    · rw [if_pos (Or.inl ⟨c1, q⟩)] at h102
      exact br_t (r1.mpr q) (br_f (by decide) h102)
    · have hn : ¬ ((b f = 1 ∧ 30 ≤ t) ∨ (b f = 9 ∧ t < 6)) := by
        rintro (⟨-, z⟩ | ⟨z, -⟩)
        · exact q z
        · rw [c1] at z; exact absurd z (by decide)
      rw [if_neg hn] at h102
      refine br_f (fun z => q (r1.mp z)) (br_f ?_ (br_t rfl h102))
      rw [c1]; decide
  · refine br_f c1 ?_
    by_cases c9 : b f = 9
    · refine br_t c9 ⟨by decide, ?_⟩
      by_cases q : t < 6
      · rw [if_pos (Or.inr ⟨c9, q⟩)] at h102
        exact br_t (r2.mpr q) (br_f (by decide) h102)
      · have hn : ¬ ((b f = 1 ∧ 30 ≤ t) ∨ (b f = 9 ∧ t < 6)) := by
          rintro (⟨z, -⟩ | ⟨-, z⟩)
          · exact c1 z
          · exact q z
        rw [if_neg hn] at h102
        exact br_f (fun z => q (r2.mp z)) (br_t rfl h102)
    · have hn : ¬ ((b f = 1 ∧ 30 ≤ t) ∨ (b f = 9 ∧ t < 6)) := by
        rintro (⟨z, -⟩ | ⟨z, -⟩)
        · exact c1 z
        · exact c9 z
      rw [if_neg hn] at h102
      exact br_f c9 (br_t rfl h102)
theorem cy_undoMove {post : SY → Prop} {s f t h : Nat} (hm : (1 : Int32) - ym = nI s) (hf : f < 36) (ht : t < 36) (hh : h < 70) (eF : yF h = nI f) (eT : yT h = nI t)
    (H : post (yg, nI s, nI h, yl, ya, yb, upd (upd b f (yM h)) t (yC h), yF, yT, yM, yC, yp, yt, yz)) : wpY_undoMove post (yg, ym, nI (h + 1), yl, ya, yb, b, yF, yT, yM, yC, yp, yt, yz) := by
  have cf : (nI f).toNatClampNeg = f := nI_clamp (by omega)
  have ct : (nI t).toNatClampNeg = t := nI_clamp (by omega)
  have ch : (nI h).toNatClampNeg = h := nI_clamp (by omega)
  have hv : vp_in (nI h) 70 := vp_in_nI hh (by decide)
  exact nm_r (e' := nI h) (nI_pred h) ⟨hv, hv, by rw [ch, eF]; exact vp_in_nI hf (by decide), nm_r (e' := upd b f (yM h)) (by rw [ch, eF, cf]) ⟨hv, hv, by rw [ch, eT]; exact vp_in_nI ht (by decide), nm_r (e' := upd (upd b f (yM h)) t (yC h)) (by rw [ch, eT, ct]) (nm_r hm H)⟩⟩
theorem cy_canGo {post : Int32 → Prop} {s f t : Nat} (hs : s < 2) (hO : ch_Ok b) (hf : f < 36) (ht : t < 36) (H : post (ch_bI (ch_cg b s f t))) : wpY_canGo post (yg, nI s, yh, yl, ya, yb, b, yF, yT, yM, yC, yp, yt, yz) (nI f) (nI t) := by
  have cf : (nI f).toNatClampNeg = f := nI_clamp (by omega)
  have ct : (nI t).toNatClampNeg = t := nI_clamp (by omega)
  refine ⟨vp_in_nI hf (by decide), nm_r (e' := b f) (congrArg b cf) ?_⟩
  by_cases e : f = t
  · have q : ch_cg b s f t = false := by
      cases hc : ch_cg b s f t with
      | false => rfl
      | true => exact absurd e (ch_cg_ow hc).2.2
    rw [q] at H
    exact br_t (by rw [e]) H
  · refine br_f (fun q => e ((nI_eq (by omega) (by omega)).mp q)) (cy_isOf hs ?_)
    rw [ch_cg_mv] at H
    cases ho : ch_ow (b f) s with
    | false => rw [ho] at H; exact br_t rfl H
    | true =>
      rw [ho, Bool.true_and] at H
      refine br_f (by decide) ⟨vp_in_nI ht (by decide), ?_⟩
      rw [ct]
      refine cy_isOf hs ?_
      cases h2 : ch_ow (b t) s with
      | true =>
        have q : ch_mv b s f t = false := by unfold ch_mv; rw [h2]; rfl
        rw [q] at H
        exact br_f (by decide) H
      | false =>
        have h88 : ¬ (ch_kd (b f) = 1 ∧ b t = 0) → wY_canGo_88 post (nI f) (nI t) yg (nI s) yh yl ya yb b yF yT yM yC yp yt yz := by
          intro hn
          have q : ch_mv b s f t = ch_at b f t := by unfold ch_mv; rw [h2, if_neg hn]; rfl
          rw [q] at H
          exact cy_attacks hf ht (hO f hf) ⟨ch_narB _, H⟩
        refine br_t rfl (cy_kind ?_)
        by_cases k : ch_kd (b f) = 1
        · refine br_t k ⟨vp_in_nI ht (by decide), ?_⟩
          by_cases z3 : b t = 0
          · refine br_t z3 ?_
            unfold ch_mv at H
            rw [h2, if_pos ⟨k, z3⟩] at H
            obtain ⟨-, -, t3, t4⟩ := ch_t_f6 f hf t ht
            rcases ch_s2 hs with rfl | rfl
            · have h8 : b f < 8 := by
                have := ch_ow_sd (by decide) ho
                exact (ch_sd8 _).mpr this
              refine br_f (Int32.not_le.mpr h8) (ch_bX (x := decide (t = f + 6)) ?_ H)
              rw [t3, decide_eq_true_eq]
            · have h8 : ¬ b f < 8 := fun q => by
                have h1 := ch_ow_sd (by decide) ho
                have h2 := (ch_sd8 _).mp q
                omega
              refine br_t (Int32.not_lt.mp h8) (ch_bX (x := decide (f = t + 6)) ?_ H)
              rw [t4, decide_eq_true_eq]
          · exact br_f z3 (h88 fun q => z3 q.2)
        · exact br_f k (h88 fun q => k q.1)
end
section
variable {yg yl ya yb : Int32} {b yF yT yM yC yp yt yz : Nat → Int32}
theorem cy_isLegal {post : Int32 → SY → Prop} {s f t h : Nat} (hs : s < 2) (hO : ch_Ok b) (hf : f < 36) (ht : t < 36) (hh : h < 70)
    (H : ∀ F T M C, ch_e4 h yF yT yM yC F T M C → post (ch_bI (ch_lp b s f t)) (yg, nI s, nI h, yl, ya, yb, b, F, T, M, C, yp, yt, yz)) : wpY_isLegal post (yg, nI s, nI h, yl, ya, yb, b, yF, yT, yM, yC, yp, yt, yz) (nI f) (nI t) := by
  unfold wpY_isLegal
  dsimp only
  refine cy_canGo hs hO hf ht ?_
  cases hc : ch_cg b s f t with
  | false =>
    have e : ch_lp b s f t = false := by unfold ch_lp; rw [hc]; rfl
    have H0 := H yF yT yM yC ch_e4_r
    rw [e] at H0
    exact br_t rfl H0
  | true =>
    obtain ⟨-, -, hne⟩ := ch_cg_ow hc
    have H1 := H _ _ _ _ (ch_e4_u (n := h) (k := h) (F := yF) (T := yT) (M := yM) (C := yC) (x := nI f) (y := nI t) (z := b f) (w := b t) (Nat.le_refl h))
    refine br_f (by decide) (cy_doMove hs hO hf ht hh hc ?_)
    dsimp only
    rw [ch_mu hs]
    refine cy_inCheck hs (ch_Ok_pl hO hf) ?_
    have hb : upd (upd (ch_pl b s f t) f (upd yM h (b f) h)) t (upd yC h (b t) h) = b := by
      rw [pk_us, pk_us]
      exact ch_back hne
    cases hk : ch_ck (ch_pl b s f t) s with
    | false =>
      have e : ch_lp b s f t = true := by unfold ch_lp; rw [hc, hk]; rfl
      rw [e] at H1
      refine br_t rfl (cy_undoMove (h := h) (ch_mu hs) hf ht hh pk_us pk_us ?_)
      rw [hb]
      exact ⟨rfl, H1⟩
    | true =>
      have e : ch_lp b s f t = false := by unfold ch_lp; rw [hc, hk]; rfl
      rw [e] at H1
      refine br_f (by decide) (cy_undoMove (h := h) (ch_mu hs) hf ht hh pk_us pk_us ?_)
      rw [hb]
      exact ⟨rfl, H1⟩
theorem cy_nl_l {post : Int32 → SY → Prop} {s h : Nat} (hs : s < 2) (hO : ch_Ok b) (hh : h < 70) : ∀ d q yF yT yM yC, q + d = 1296 →
    (∀ F T M C, ch_e4 h yF yT yM yC F T M C → post (nI (ch_hY (ch_Rl (ch_lg b s) q))) (yg, nI s, nI h, yl, ya, yb, b, F, T, M, C, yp, yt, yz)) → wY_nextLegal_2 post (d + 1) (nI q) yg (nI s) (nI h) yl ya yb b yF yT yM yC yp yt yz := by
  intro d
  induction d with
  | zero =>
    intro q yF yT yM yC hq H
    have e : q = 1296 := by omega
    subst e
    have H0 := H yF yT yM yC ch_e4_r
    rw [ch_Re (Nat.le_refl 1296)] at H0
    exact br_t (nI_le (Nat.le_refl 1296) (by decide)) H0
  | succ d ih =>
    intro q yF yT yM yC hq H
    have hq2 : q < 1296 := by omega
    refine br_f (nI_ge (b := 1296) hq2 (by decide)) ⟨by decide, by decide, ?_⟩
    rw [ch_r36 hq2, ch_d36 hq2]
    refine cy_isLegal hs hO (by omega) (by omega) hh fun F T M C e => ?_
    cases hl : ch_lp b s (q / 36) (q % 36) with
    | false =>
      refine br_t rfl (nm_r (nI_1 q) (ih (q + 1) F T M C (by omega) fun F' T' M' C' e' => ?_))
      have H0 := H F' T' M' C' (ch_e4_t e e')
      rw [ch_Rf hq2 hl] at H0
      exact H0
    | true =>
      have H0 := H F T M C e
      rw [ch_Rt hq2 hl] at H0
      exact br_f (by decide) H0
theorem cy_nextLegal {post : Int32 → SY → Prop} {s h q : Nat} (hs : s < 2) (hO : ch_Ok b) (hh : h < 70) (hq : q ≤ 1296)
    (H : ∀ F T M C, ch_e4 h yF yT yM yC F T M C → post (nI (ch_hY (ch_Rl (ch_lg b s) q))) (yg, nI s, nI h, yl, ya, yb, b, F, T, M, C, yp, yt, yz)) : wpY_nextLegal post (yg, nI s, nI h, yl, ya, yb, b, yF, yT, yM, yC, yp, yt, yz) (nI q) :=
  ⟨1296 - q + 1, cy_nl_l hs hO hh (1296 - q) q yF yT yM yC (by omega) H⟩
end
end
section
/-! the component: counting, positions, ways of being over, moves made and taken back, balance -/
theorem ch_ix (h j : Nat) : (nI h * 36) + nI j = nI (36 * h + j) := by
  rw [show (36 : Int32) = nI 36 from rfl, pk_mul, nI_add]
  exact congrArg nI (by omega)
theorem ch_iy (h j : Nat) : (36 * nI h) + nI j = nI (36 * h + j) := by
  rw [show (36 : Int32) = nI 36 from rfl, pk_mul, nI_add]
/-- the board b is the k-th of the past -/
def ch_eq (p b : Nat → Int32) (k : Nat) : Bool := (List.range 36).all fun i => decide (p (36 * k + i) = b i)
theorem ch_eq_iff {p b : Nat → Int32} {k : Nat} : ch_eq p b k = true ↔ ∀ i, i < 36 → p (36 * k + i) = b i := by
  unfold ch_eq
  rw [List.all_eq_true]
  constructor
  · intro h i hi; exact of_decide_eq_true (h i (List.mem_range.mpr hi))
  · intro h i hi; exact decide_eq_true (h i (List.mem_range.mp hi))
theorem ch_dn2 (k : Nat) : nI (k + 2) + (-2) = nI k := by
  rw [← nI_add, Int32.add_assoc, show nI 2 + (-2) = 0 by decide, Int32.add_zero]
theorem ch_dn2' (k : Nat) : nI (k + 2) - 2 = nI k := by
  rw [show (2 : Int32) = nI 2 from rfl, pk_sub (by omega)]
  exact congrArg nI (by omega)
def ch_ov (b : Nat → Int32) (s h st q : Nat) : Int32 := if ch_L b s = [] then (if ch_ck b s then 1 else 2) else if 3 ≤ st then 3 else if 20 ≤ q then 4 else if 60 ≤ h then 5 else 0
theorem ch_nmS {p : Nat} (h : p < 1296) : nI (ch_nm p) >>> ((6 : Int32) &&& 31) = nI (p / 36) := by
  have := ch_nm_lt h
  rw [pk_shrN (by omega) ((6 : Int32) &&& 31) 6 (by decide)]
  unfold ch_nm
  exact congrArg nI (by omega)
theorem ch_nmA {p : Nat} (h : p < 1296) : nI (ch_nm p) &&& 63 = nI (p % 36) := by
  have := ch_nm_lt h
  rw [pk_andN (by omega) 6 (by decide)]
  unfold ch_nm
  exact congrArg nI (by omega)
theorem cx_isEndRow {post : Int32 → Prop} {t : Nat} (ht : t < 36) (H : post (ch_bI (decide (t < 6 ∨ 30 ≤ t)))) : wpX_isEndRow post (nI t) := by
  unfold wpX_isEndRow
  obtain ⟨-, -, r3, r4⟩ := ch_t_row t ht
  by_cases h6 : t < 6
  · rw [decide_eq_true (Or.inl h6)] at H; exact br_t (r3.mpr h6) H
  · refine br_f (fun q => h6 (r3.mp q)) ?_
    by_cases h30 : 30 ≤ t
    · rw [decide_eq_true (Or.inr h30)] at H; exact br_f (Int32.not_lt.mpr (r4.mpr h30)) H
    · rw [decide_eq_false (by omega)] at H; exact br_t (Int32.not_le.mp fun q => h30 (r4.mp q)) H
theorem cx_worthOf {post : Int32 → Prop} {c : Int32} (hc : ch_ok c) (H : post (ch_wt c)) : wpX_worthOf post c := by
  refine cx_kindOf hc ?_
  unfold ch_wt at H
  by_cases z : c = 0
  · rw [z, ch_kd_0] at H ⊢; exact br_t (by decide) H
  · rcases ch_kd_ne hc z with k | k | k | k | k | k <;> rw [k] at H ⊢
    · exact br_f (by decide) (br_f (by decide) (br_t rfl H))
    · exact br_f (by decide) (br_f (by decide) (br_f (by decide) (br_t rfl H)))
    · exact br_f (by decide) (br_f (by decide) (br_f (by decide) (br_f (by decide) (br_t rfl H))))
    · exact br_f (by decide) (br_f (by decide) (br_f (by decide) (br_f (by decide) (br_f (by decide) (br_t rfl H)))))
    · exact br_f (by decide) (br_f (by decide) (br_f (by decide) (br_f (by decide) (br_f (by decide) (br_f (by decide) (br_t rfl H))))))
    · exact br_f (by decide) (br_t (by decide) H)
section
variable {xg xm xh xr : Int32} {b xp xq xt xv xk xz : Nat → Int32}
theorem cx_cl_l {post : Int32 → SX → Prop} {s : Nat} (hs : s < 2) (hO : ch_Ok b) (hK : ch_K1 b) : ∀ (l : List Nat) (i q n : Nat), ch_Rl (ch_lg b s) q = l → i + l.length < 2304 → l.length < n → post (nI (i + l.length)) (xg, nI s, xh, xr, b, xp, xq, xt, xv, xk, xz) → wX_countLegal_10 post n (nI i) (ch_hX l) (nI i) xg (nI s) xh xr b xp xq xt xv xk xz := by
  intro l
  induction l with
  | nil =>
    intro i q n hq hi hn H
    obtain ⟨m, rfl⟩ : ∃ m, n = m + 1 := ⟨n - 1, by omega⟩
    exact br_f (nI_ge (b := 2304) (by omega) (by decide)) (br_t rfl H)
  | cons p r ih =>
    intro i q n hq hi hn H
    obtain ⟨m, rfl⟩ : ∃ m, n = m + 1 := ⟨n - 1, by omega⟩
    obtain ⟨-, h2, -, h4, -⟩ := ch_Rcons _ _ rfl p r hq
    simp only [List.length_cons] at hi hn H
    refine br_f (nI_ge (b := 2304) (by omega) (by decide)) (br_f (ch_nm_ne h2) (nm_r (nI_1 i) (cx_nl_p hs hO hK h2 ?_)))
    rw [← h4]
    refine nm_r (nI_1 i) (ih (i + 1) (p + 1) m h4.symm (by omega) (by omega) ?_)
    rw [show i + 1 + r.length = i + (r.length + 1) by omega]
    exact H
theorem ch_L_le (b : Nat → Int32) (s : Nat) : (ch_L b s).length ≤ 1296 := by
  unfold ch_L
  rw [ch_Rlen0]
  exact ch_ct_le _ _
theorem cx_countLegal {post : Int32 → SX → Prop} {s : Nat} (hs : s < 2) (hO : ch_Ok b) (hK : ch_K1 b) (H : post (nI (ch_L b s).length) (xg, nI s, xh, xr, b, xp, xq, xt, xv, xk, xz)) : wpX_countLegal post (xg, nI s, xh, xr, b, xp, xq, xt, xv, xk, xz) := by
  have h1 := ch_L_le b s
  refine cx_nl_0 hs hO hK ⟨1297, cx_cl_l hs hO hK (ch_L b s) 0 0 1297 rfl (by omega) (by omega) ?_⟩
  rw [Nat.zero_add]
  exact H
theorem cx_kp_l {post : SX → Prop} {h : Nat} (hh : h ≤ 60) (H : post (xg, xm, nI h, xr, b, ch_kp xp b h 36, xq, xt, xv, xk, xz)) : ∀ d j, j + d = 36 → wX_keepPosition_2 post xg xm (nI h) xr (d + 1) (nI j) b (ch_kp xp b h j) xq xt xv xk xz := by
  intro d
  induction d with
  | zero =>
    intro j hj
    have e : j = 36 := by omega
    subst e
    exact br_t (nI_le (Nat.le_refl 36) (by decide)) H
  | succ d ih =>
    intro j hj
    have cl : (nI j).toNatClampNeg = j := nI_clamp (by omega)
    refine br_f (nI_ge (b := 36) (by omega) (by decide)) ⟨vp_in_nI (by omega) (by decide), by rw [ch_ix]; exact vp_in_nI (by omega) (by decide), nm_r (e' := ch_kp xp b h (j + 1)) ?_ (nm_r (nI_1 j) (ih (j + 1) (by omega)))⟩
    rw [ch_ix, nI_clamp (by omega), cl, ch_kp_s]
theorem cx_keepPosition {post : SX → Prop} {h : Nat} (hh : h ≤ 60) (H : post (xg, xm, nI h, xr, b, ch_kp xp b h 36, xq, xt, xv, xk, xz)) : wpX_keepPosition post (xg, xm, nI h, xr, b, xp, xq, xt, xv, xk, xz) := by
  have h1 := cx_kp_l hh H 36 0 rfl
  rw [ch_kp_0] at h1
  exact ⟨37, h1⟩
theorem cx_sa_l {post : Int32 → Prop} {k : Nat} (hk : k ≤ 60) (H : post (ch_bI (ch_eq xp b k))) : ∀ d j, j + d = 36 → (∀ i, i < j → xp (36 * k + i) = b i) → wX_stoodAfter_2 post (nI k) xg xm xh xr b xp xq xt xv xk xz (d + 1) (nI j) := by
  intro d
  induction d with
  | zero =>
    intro j hj h0
    have e : j = 36 := by omega
    subst e
    rw [ch_eq_iff.mpr h0] at H
    exact br_t (nI_le (Nat.le_refl 36) (by decide)) H
  | succ d ih =>
    intro j hj h0
    have cl : (nI j).toNatClampNeg = j := nI_clamp (by omega)
    refine br_f (nI_ge (b := 36) (by omega) (by decide)) ⟨by rw [ch_ix]; exact vp_in_nI (by omega) (by decide), vp_in_nI (by omega) (by decide), ek_if (d := xp (36 * k + j) = b j) (by rw [ch_ix, nI_clamp (by omega), cl]) (fun z => nm_r (nI_1 j) (ih (j + 1) (by omega) fun i hi => ?_)) (fun z => ?_)⟩
    · by_cases e : i = j
      · rw [e]; exact z
      · exact h0 i (by omega)
    · have e2 : ch_eq xp b k = false := by
        cases hc : ch_eq xp b k with
        | false => rfl
        | true => exact absurd (ch_eq_iff.mp hc j (by omega)) z
      rw [e2] at H
      exact H
theorem cx_stoodAfter {post : Int32 → Prop} {k : Nat} (hk : k ≤ 60) (H : post (ch_bI (ch_eq xp b k))) : wpX_stoodAfter post (xg, xm, xh, xr, b, xp, xq, xt, xv, xk, xz) (nI k) := ⟨37, cx_sa_l hk H 36 0 rfl (fun i hi => absurd hi (Nat.not_lt_zero i))⟩
theorem cx_ts_l {post : Int32 → Prop} : ∀ n k a, k < 2 * n → k ≤ 60 → post (nI (a + ch_st (ch_eq xp b) k)) → wX_timesStood_7 post xg xm xh xr b xp xq xt xv xk xz (n + 1) (nI a) (nI k) := by
  intro n
  induction n with
  | zero => intro k a hk; omega
  | succ n ih =>
    intro k a hk h60 H
    have hend : ∀ a x, x < (0 : Int32) → post (nI a) → wX_timesStood_7 post xg xm xh xr b xp xq xt xv xk xz (n + 1) (nI a) x := fun a x hx hp => br_t hx hp
    refine br_f (nI_pos (by omega)) (cx_stoodAfter h60 ?_)
    have key : ∀ a', a' = a + ch_b1 (ch_eq xp b k) → ∀ x : Int32, x = nI k + (-2) → wX_timesStood_7 post xg xm xh xr b xp xq xt xv xk xz (n + 1) (nI a') x := by
      intro a' ea x ex
      have h3 : k = 0 ∨ k = 1 ∨ ∃ j, k = j + 2 := by
        by_cases a0 : k = 0
        · exact Or.inl a0
        · by_cases a1 : k = 1
          · exact Or.inr (Or.inl a1)
          · exact Or.inr (Or.inr ⟨k - 2, by omega⟩)
      rcases h3 with e | e | ⟨j, e⟩
      · subst e; rw [ea]; exact hend _ _ (by rw [ex]; decide) H
      · subst e; rw [ea]; exact hend _ _ (by rw [ex]; decide) H
      · subst e
        rw [ex, ch_dn2]
        refine ih j a' (by omega) (by omega) ?_
        rw [ea, Nat.add_assoc]
        exact H
    cases he : ch_eq xp b k with
    | false => exact br_t rfl (key a (by rw [he]; rfl))
    | true => exact br_f (by decide) (nm_r (nI_1 a) (key (a + 1) (by rw [he]; rfl)))
theorem cx_timesStood {post : Int32 → Prop} {h : Nat} (hh : h ≤ 60) (H : post (nI (ch_st (ch_eq xp b) h))) : wpX_timesStood post (xg, xm, nI h, xr, b, xp, xq, xt, xv, xk, xz) := by
  have h1 := cx_ts_l (xg := xg) (xm := xm) (xh := nI h) (xr := xr) (xq := xq) (xt := xt) (xv := xv) (xk := xk) (xz := xz) (post := post) (xp := xp) (b := b) 61 h 0 (by omega) hh (by rw [Nat.zero_add]; exact H)
  exact ⟨62, h1⟩
theorem ch_st_le (e : Nat → Bool) : ∀ n k, k ≤ n → ch_st e k ≤ k + 1 := by
  have hb : ∀ x, ch_b1 x ≤ 1 := by intro x; cases x <;> decide
  intro n
  induction n with
  | zero => intro k hk; have : k = 0 := by omega
            subst this; have := hb (e 0); simp only [ch_st]; omega
  | succ n ih =>
    intro k hk
    match k, hk with
    | 0, _ => have := hb (e 0); simp only [ch_st]; omega
    | 1, _ => have := hb (e 1); simp only [ch_st]; omega
    | k + 2, hk => have h1 := hb (e (k + 2)); have h2 := ih k (by omega); simp only [ch_st]; omega
theorem cx_way {post : Int32 → SX → Prop} {s h q : Nat} (hs : s < 2) (hO : ch_Ok b) (hK : ch_K1 b) (hh : h ≤ 60) (hq : q ≤ 60) (eq : xq h = nI q) (H : post (ch_ov b s h (ch_st (ch_eq xp b) h) q) (xg, nI s, nI h, xr, b, xp, xq, xt, xv, xk, xz)) : wpX_wayOfBeingOver post (xg, nI s, nI h, xr, b, xp, xq, xt, xv, xk, xz) := by
  have ch : (nI h).toNatClampNeg = h := nI_clamp (by omega)
  refine cx_nl_0 hs hO hK ?_
  unfold ch_ov at H
  by_cases e : ch_L b s = []
  · rw [if_pos e] at H
    refine br_t (by rw [e]; rfl) (cx_inCheck hs hO hK ?_)
    cases hc : ch_ck b s with
    | true => rw [hc] at H; exact br_f (by decide) H
    | false => rw [hc] at H; exact br_t rfl H
  · rw [if_neg e] at H
    refine br_f (fun z => e ((ch_hX_nil (fun p hp => ch_Rl_lt p hp)).mp z)) (cx_timesStood hh ?_)
    have hst := ch_st_le (ch_eq xp b) h h (Nat.le_refl h)
    by_cases h3 : 3 ≤ ch_st (ch_eq xp b) h
    · rw [if_pos h3] at H
      exact br_f (nI_nlt (b := 3) h3 (by omega)) H
    · rw [if_neg h3] at H
      refine br_t (nI_lt (b := 3) (by omega) (by decide)) ⟨vp_in_nI (by omega) (by decide), ?_⟩
      rw [ch, eq]
      by_cases h20 : 20 ≤ q
      · rw [if_pos h20] at H
        exact br_f (nI_nlt (b := 20) h20 (by omega)) H
      · rw [if_neg h20] at H
        refine br_t (nI_lt (b := 20) (by omega) (by decide)) ?_
        by_cases h6 : 60 ≤ h
        · rw [if_pos h6] at H
          exact br_f (nI_nlt (b := 60) h6 (by omega)) H
        · rw [if_neg h6] at H
          exact br_t (nI_lt (b := 60) (by omega) (by decide)) H
theorem cx_play {post : SX → Prop} {s p L : Nat} (hs : s < 2) (hO : ch_Ok b) (hp : p < 1296) (hL : L < 4)
    (H : post (xg, nI (1 - s), xh, xr, ch_pp b s p, xp, xq, upd xt L (nI (ch_nm p)), upd xv L (b (p / 36)), upd xk L (b (p % 36)), xz)) : wpX_play post (xg, nI s, xh, xr, b, xp, xq, xt, xv, xk, xz) (nI L) (nI (ch_nm p)) := by
  have hf : p / 36 < 36 := by omega
  have ht : p % 36 < 36 := by omega
  have cf : (nI (p / 36)).toNatClampNeg = p / 36 := nI_clamp (by omega)
  have ct : (nI (p % 36)).toNatClampNeg = p % 36 := nI_clamp (by omega)
  have cL : (nI L).toNatClampNeg = L := nI_clamp (by omega)
  have vL : vp_in (nI L) 4 := vp_in_nI hL (by decide)
  have vf : vp_in (nI (p / 36)) 36 := vp_in_nI hf (by decide)
  have vt : vp_in (nI (p % 36)) 36 := vp_in_nI ht (by decide)
  have h102 : wX_play_102 post (ch_pc b s (p / 36) (p % 36)) (nI (p % 36)) xg (nI s) xh xr (upd b (p / 36) 0) xp xq (upd xt L (nI (ch_nm p))) (upd xv L (b (p / 36))) (upd xk L (b (p % 36))) xz :=
    ⟨vt, nm_r (e' := ch_pp b s p) (by rw [ct]; rfl) (nm_r (ch_s4 hs) H)⟩
  have h68 : ¬ (ch_kd (b (p / 36)) = 1 ∧ (p % 36 < 6 ∨ 30 ≤ p % 36)) → wX_play_68 post (nI (p / 36)) (nI (p % 36)) (b (p / 36)) xg (nI s) xh xr b xp xq (upd xt L (nI (ch_nm p))) (upd xv L (b (p / 36))) (upd xk L (b (p % 36))) xz := by
    intro hn
    unfold ch_pc at h102
    rw [if_neg hn] at h102
    exact ⟨vf, nm_r (e' := upd b (p / 36) 0) (by rw [cf]) (br_t rfl h102)⟩
  refine nm_r (ch_nmS hp) (nm_r (ch_nmA hp) ⟨vf, nm_r (e' := b (p / 36)) (congrArg b cf) ⟨vL, nm_r (e' := upd xt L (nI (ch_nm p))) (by rw [cL]) ⟨vL, nm_r (e' := upd xv L (b (p / 36))) (by rw [cL]) ⟨vt, vL, nm_r (e' := upd xk L (b (p % 36))) (by rw [cL, ct]) (cx_kindOf (hO _ hf) ?_)⟩⟩⟩⟩)
  by_cases k : ch_kd (b (p / 36)) = 1
  · refine br_t k (cx_isEndRow ht ?_)
    by_cases e : p % 36 < 6 ∨ 30 ≤ p % 36
    · rw [decide_eq_true e]
      refine br_f (by decide) ⟨vf, nm_r (e' := upd b (p / 36) 0) (by rw [cf]) (br_f (by decide) ?_)⟩
      unfold ch_pc at h102
      rw [if_pos ⟨k, e⟩] at h102
      unfold wpX_pieceOf
      rw [ch_qX hs]
      exact h102
    · rw [decide_eq_false e]
      exact br_t rfl (h68 fun q => e q.2)
  · exact br_f k (h68 fun q => k q.1)
theorem cx_takeBack {post : SX → Prop} {s p L : Nat} (hm : (1 : Int32) - xm = nI s) (hp : p < 1296) (hL : L < 4) (et : xt L = nI (ch_nm p))
    (H : post (xg, nI s, xh, xr, upd (upd b (p / 36) (xv L)) (p % 36) (xk L), xp, xq, xt, xv, xk, xz)) : wpX_takeBack post (xg, xm, xh, xr, b, xp, xq, xt, xv, xk, xz) (nI L) := by
  have hf : p / 36 < 36 := by omega
  have ht : p % 36 < 36 := by omega
  have cf : (nI (p / 36)).toNatClampNeg = p / 36 := nI_clamp (by omega)
  have ct : (nI (p % 36)).toNatClampNeg = p % 36 := nI_clamp (by omega)
  have cL : (nI L).toNatClampNeg = L := nI_clamp (by omega)
  have vL : vp_in (nI L) 4 := vp_in_nI hL (by decide)
  exact ⟨vL, nm_r (e' := nI (ch_nm p)) (by rw [cL]; exact et) ⟨vL, by rw [ch_nmS hp]; exact vp_in_nI hf (by decide), nm_r (e' := upd b (p / 36) (xv L)) (by rw [ch_nmS hp, cf, cL]) ⟨vL, by rw [ch_nmA hp]; exact vp_in_nI ht (by decide), nm_r (e' := upd (upd b (p / 36) (xv L)) (p % 36) (xk L)) (by rw [ch_nmA hp, ct, cL]) (nm_r hm H)⟩⟩⟩
theorem cx_bl_l {post : Int32 → Prop} {s : Nat} (hs : s < 2) (hO : ch_Ok b) (H : post (ch_bl b s)) : ∀ d j, j + d = 36 → wX_balance_4 post xg (nI s) xh xr b xp xq xt xv xk xz (d + 1) (ch_sb b s j) (nI j) := by
  intro d
  induction d with
  | zero =>
    intro j hj
    have e : j = 36 := by omega
    subst e
    exact br_t (nI_le (Nat.le_refl 36) (by decide)) H
  | succ d ih =>
    intro j hj
    have cl : (nI j).toNatClampNeg = j := nI_clamp (by omega)
    have h1 := ih (j + 1) (by omega)
    simp only [ch_sb] at h1
    refine br_f (nI_ge (b := 36) (by omega) (by decide)) ⟨vp_in_nI (by omega) (by decide), nm_r (e' := b j) (congrArg b cl) (cx_worthOf (hO j (by omega)) (cx_ownerOf (ek_if (ch_owX (hO j (by omega)) hs) (fun z => ?_) (fun z => ?_))))⟩
    · rw [if_pos z] at h1
      exact nm_e (nm_r (nI_1 j) h1)
    · rw [if_neg z, Int32.sub_eq_add_neg] at h1
      exact nm_e (nm_r (nI_1 j) h1)
theorem cx_balance {post : Int32 → Prop} {s : Nat} (hs : s < 2) (hO : ch_Ok b) (H : post (ch_bl b s)) : wpX_balance post (xg, nI s, xh, xr, b, xp, xq, xt, xv, xk, xz) := ⟨37, cx_bl_l hs hO H 36 0 rfl⟩
theorem cx_ak_l {post : Int32 → Prop} {s k : Nat} (hs : s < 2) (hO : ch_Ok b) (hk : k < 36) (H : post (nI (ch_aa b k s))) : ∀ d j, j + d = 36 → wX_attackers_21 post (nI k) (nI s) xg xm xh xr b xp xq xt xv xk xz (d + 1) (nI (ch_ct (fun f => ch_ow (b f) s && ch_at b f k) j)) (nI j) := by
  intro d
  induction d with
  | zero =>
    intro j hj
    have e : j = 36 := by omega
    subst e
    exact br_t (nI_le (Nat.le_refl 36) (by decide)) H
  | succ d ih =>
    intro j hj
    have cl : (nI j).toNatClampNeg = j := nI_clamp (by omega)
    have h1 := ih (j + 1) (by omega)
    refine br_f (nI_ge (b := 36) (by omega) (by decide)) ⟨vp_in_nI (by omega) (by decide), ?_⟩
    rw [cl]
    refine cx_ownerOf (ek_if (ch_owX (hO j (by omega)) hs) (fun z => cx_attacks (by omega) hk (hO j (by omega)) ?_) (fun z => nm_r (nI_1 j) ?_))
    · cases ha : ch_at b j k with
      | false =>
        rw [ch_ct_f (by simp [ha])] at h1
        exact br_t rfl (nm_r (nI_1 j) h1)
      | true =>
        rw [ch_ct_t (by simp [ha, z])] at h1
        exact br_f (by decide) (nm_r (nI_1 _) (nm_r (nI_1 j) h1))
    · rw [ch_ct_f (by simp [z])] at h1
      exact h1
end
end
section
/-! the reference: positions, counting, ways of being over, balance -/
section
variable {yg ym yh yl ya yb : Int32} {b yF yT yM yC yp yt yz : Nat → Int32}
theorem cy_kp_l {post : SY → Prop} {h : Nat} (hh : h ≤ 60) (H : post (yg, ym, nI h, yl, ya, yb, b, yF, yT, yM, yC, ch_kp yp b h 36, yt, yz)) : ∀ d j, j + d = 36 → wY_keepBoard_2 post yg ym (nI h) yl ya yb (d + 1) (nI j) b yF yT yM yC (ch_kp yp b h j) yt yz := by
  intro d
  induction d with
  | zero =>
    intro j hj
    have e : j = 36 := by omega
    subst e
    exact br_t (nI_le (Nat.le_refl 36) (by decide)) H
  | succ d ih =>
    intro j hj
    have cl : (nI j).toNatClampNeg = j := nI_clamp (by omega)
    refine br_f (nI_ge (b := 36) (by omega) (by decide)) ⟨vp_in_nI (by omega) (by decide), by rw [ch_iy]; exact vp_in_nI (by omega) (by decide), nm_r (e' := ch_kp yp b h (j + 1)) ?_ (nm_r (nI_1 j) (ih (j + 1) (by omega)))⟩
    rw [ch_iy, nI_clamp (by omega), cl, ch_kp_s]
theorem cy_keepBoard {post : SY → Prop} {h : Nat} (hh : h ≤ 60) (H : post (yg, ym, nI h, yl, ya, yb, b, yF, yT, yM, yC, ch_kp yp b h 36, yt, yz)) : wpY_keepBoard post (yg, ym, nI h, yl, ya, yb, b, yF, yT, yM, yC, yp, yt, yz) := by
  have h1 := cy_kp_l hh H 36 0 rfl
  rw [ch_kp_0] at h1
  exact ⟨37, h1⟩
theorem cy_sd_in {post : Int32 → Prop} {J : Int32 → Int32 → Prop} {k a : Nat} (hk : k ≤ 60) (HJ : ∀ a', a' = a + ch_b1 (ch_eq yp b k) → ∀ x : Int32, x = nI k - 2 → J (nI a') x) :
    ∀ d j fl, j + d = 36 → (fl = true ↔ ∀ i, i < j → yp (36 * k + i) = b i) → wY_standings_16 post J (nI a) (nI k) yg ym yh yl ya yb b yF yT yM yC yp yt yz (d + 1) (ch_bI fl) (nI j) := by
  intro d
  induction d with
  | zero =>
    intro j fl hj hfl
    have e : j = 36 := by omega
    subst e
    have e2 : ch_eq yp b k = fl := Bool.eq_iff_iff.mpr (ch_eq_iff.trans hfl.symm)
    rw [e2] at HJ
    refine br_t (nI_le (Nat.le_refl 36) (by decide)) ?_
    cases fl with
    | false => exact br_t rfl (HJ a rfl)
    | true => exact br_f (by decide) (nm_r (nI_1 a) (HJ (a + 1) rfl))
  | succ d ih =>
    intro j fl hj hfl
    have cl : (nI j).toNatClampNeg = j := nI_clamp (by omega)
    refine br_f (nI_ge (b := 36) (by omega) (by decide)) ?_
    cases fl with
    | false =>
      refine br_t rfl (nm_r (nI_1 j) (ih (j + 1) false (by omega) ⟨fun q => Bool.noConfusion q, fun q => hfl.mpr fun i hi => q i (by omega)⟩))
    | true =>
      have hall := hfl.mp rfl
      refine br_f (by decide) ⟨by rw [ch_iy]; exact vp_in_nI (by omega) (by decide), vp_in_nI (by omega) (by decide), ek_if (d := yp (36 * k + j) = b j) (by rw [ch_iy, nI_clamp (by omega), cl]) (fun z => nm_r (nI_1 j) (ih (j + 1) true (by omega) ⟨fun _ i hi => ?_, fun _ => rfl⟩)) (fun z => nm_r (nI_1 j) (ih (j + 1) false (by omega) ⟨fun q => Bool.noConfusion q, fun q => absurd (q j (by omega)) z⟩))⟩
      by_cases e : i = j
      · rw [e]; exact z
      · exact hall i (by omega)
theorem cy_st_l {post : Int32 → Prop} : ∀ n k a, k < 2 * n → k ≤ 60 → post (nI (a + ch_st (ch_eq yp b) k)) → wY_standings_7 post yg ym yh yl ya yb b yF yT yM yC yp yt yz (n + 1) (nI a) (nI k) := by
  intro n
  induction n with
  | zero => intro k a hk; omega
  | succ n ih =>
    intro k a hk h60 H
    have hend : ∀ a x, x < (0 : Int32) → post (nI a) → wY_standings_7 post yg ym yh yl ya yb b yF yT yM yC yp yt yz (n + 1) (nI a) x := fun a x hx hp => br_t hx hp
    have key : ∀ a', a' = a + ch_b1 (ch_eq yp b k) → ∀ x : Int32, x = nI k - 2 → wY_standings_7 post yg ym yh yl ya yb b yF yT yM yC yp yt yz (n + 1) (nI a') x := by
      intro a' ea x ex
      have h3 : k = 0 ∨ k = 1 ∨ ∃ j, k = j + 2 := by
        by_cases a0 : k = 0
        · exact Or.inl a0
        · by_cases a1 : k = 1
          · exact Or.inr (Or.inl a1)
          · exact Or.inr (Or.inr ⟨k - 2, by omega⟩)
      rcases h3 with e | e | ⟨j, e⟩
      · subst e; rw [ea]; exact hend _ _ (by rw [ex]; decide) H
      · subst e; rw [ea]; exact hend _ _ (by rw [ex]; decide) H
      · subst e
        rw [ex, ch_dn2']
        refine ih j a' (by omega) (by omega) ?_
        rw [ea, Nat.add_assoc]
        exact H
    exact br_f (nI_pos (by omega)) ⟨37, cy_sd_in h60 key 36 0 true rfl ⟨fun _ i hi => absurd hi (Nat.not_lt_zero i), fun _ => rfl⟩⟩
theorem cy_standings {post : Int32 → Prop} {h : Nat} (hh : h ≤ 60) (H : post (nI (ch_st (ch_eq yp b) h))) : wpY_standings post (yg, ym, nI h, yl, ya, yb, b, yF, yT, yM, yC, yp, yt, yz) :=
  ⟨62, cy_st_l 61 h 0 (by omega) hh (by rw [Nat.zero_add]; exact H)⟩
theorem cy_qt_l {post : Int32 → Prop} {h : Nat} (hh : h ≤ 60) (H : post (nI (ch_qt yM yC h))) : ∀ d n, n + d = h → (∀ j, j < n → yC (h - 1 - j) = 0 ∧ ¬ ch_kd (yM (h - 1 - j)) = 1) → wY_quiet_2 post yg ym (nI h) yl ya yb b yF yT yM yC yp yt yz (d + 1) (nI n) := by
  intro d
  induction d with
  | zero =>
    intro n hn hq
    have e : n = h := by omega
    subst e
    have e2 := ch_qt_back yM yC (Nat.le_refl n) hq
    rw [Nat.sub_self] at e2
    rw [e2] at H
    exact br_t (nI_le (Nat.le_refl n) (by omega)) H
  | succ d ih =>
    intro n hn hq
    have e2 := ch_qt_back yM yC (h := h) (n := n) (by omega) hq
    have ei : nI h - 1 - nI n = nI (h - 1 - n) := by
      rw [show (1 : Int32) = nI 1 from rfl, pk_sub (by omega), pk_sub (by omega)]
    have cl : (nI (h - 1 - n)).toNatClampNeg = h - 1 - n := nI_clamp (by omega)
    have vi : vp_in (nI (h - 1 - n)) 70 := vp_in_nI (by omega) (by decide)
    refine br_f (nI_ge (by omega) (by omega)) ?_
    rw [ei, cl]
    have stop : ¬ (yC (h - 1 - n) = 0 ∧ ¬ ch_kd (yM (h - 1 - n)) = 1) → post (nI n) := by
      intro q
      rw [show h - n = (h - 1 - n) + 1 by omega] at e2
      simp only [ch_qt] at e2
      rw [if_neg q] at e2
      rw [e2] at H
      exact H
    refine ⟨vi, ?_⟩
    by_cases z : yC (h - 1 - n) = 0
    · refine br_t z ⟨vi, cy_kind ?_⟩
      by_cases k : ch_kd (yM (h - 1 - n)) = 1
      · exact br_t k (stop fun q => q.2 k)
      · refine br_f k (nm_r (nI_1 n) (ih (n + 1) (by omega) fun j hj => ?_))
        by_cases e : j = n
        · rw [e]; exact ⟨z, k⟩
        · exact hq j (by omega)
    · exact br_f z (stop fun q => z q.1)
theorem cy_quiet {post : Int32 → Prop} {h : Nat} (hh : h ≤ 60) (H : post (nI (ch_qt yM yC h))) : wpY_quiet post (yg, ym, nI h, yl, ya, yb, b, yF, yT, yM, yC, yp, yt, yz) :=
  ⟨h + 1, cy_qt_l hh H h 0 (by omega) (fun j hj => absurd hj (Nat.not_lt_zero j))⟩
theorem cy_worth {post : Int32 → Prop} {c : Int32} (hc : ch_ok c) (H : post (ch_wt c)) : wpY_worth post (yg, ym, yh, yl, ya, yb, b, yF, yT, yM, yC, yp, yt, yz) c := by
  unfold wpY_worth
  dsimp only
  refine cy_kind ?_
  unfold ch_wt at H
  by_cases z : c = 0
  · rw [z, ch_kd_0] at H ⊢; exact br_t (by decide) H
  · rcases ch_kd_ne hc z with k | k | k | k | k | k <;> rw [k] at H ⊢
    · exact br_f (by decide) (br_f (by decide) (br_t rfl H))
    · exact br_f (by decide) (br_f (by decide) (br_f (by decide) (br_t rfl H)))
    · exact br_f (by decide) (br_f (by decide) (br_f (by decide) (br_f (by decide) (br_t rfl H))))
    · exact br_f (by decide) (br_f (by decide) (br_f (by decide) (br_f (by decide) (br_f (by decide) (br_t rfl H)))))
    · exact br_f (by decide) (br_f (by decide) (br_f (by decide) (br_f (by decide) (br_f (by decide) (br_f (by decide) (br_t rfl H))))))
    · exact br_f (by decide) (br_t (by decide) H)
theorem cy_bl_l {post : Int32 → Prop} {s : Nat} (hs : s < 2) (hO : ch_Ok b) (H : post (ch_bl b s)) : ∀ d j, j + d = 36 → wY_balance_4 post yg (nI s) yh yl ya yb b yF yT yM yC yp yt yz (d + 1) (ch_sb b s j) (nI j) := by
  intro d
  induction d with
  | zero =>
    intro j hj
    have e : j = 36 := by omega
    subst e
    exact br_t (nI_le (Nat.le_refl 36) (by decide)) H
  | succ d ih =>
    intro j hj
    have cl : (nI j).toNatClampNeg = j := nI_clamp (by omega)
    have vj : vp_in (nI j) 36 := vp_in_nI (by omega) (by decide)
    have h1 := ih (j + 1) (by omega)
    simp only [ch_sb] at h1
    refine br_f (nI_ge (b := 36) (by omega) (by decide)) ⟨vj, ?_⟩
    rw [cl]
    refine cy_worth (hO j (by omega)) ⟨vj, cy_isOf hs ?_⟩
    cases ho : ch_ow (b j) s with
    | true =>
      rw [ho, if_pos rfl] at h1
      exact br_f (by decide) (nm_e (nm_r (nI_1 j) h1))
    | false =>
      rw [ho, if_neg (by decide)] at h1
      exact br_t rfl (nm_e (nm_r (nI_1 j) h1))
theorem cy_balance {post : Int32 → Prop} {s : Nat} (hs : s < 2) (hO : ch_Ok b) (H : post (ch_bl b s)) : wpY_balance post (yg, nI s, yh, yl, ya, yb, b, yF, yT, yM, yC, yp, yt, yz) := ⟨37, cy_bl_l hs hO H 36 0 rfl⟩
theorem cy_without {post : Int32 → Prop} {s d : Nat} (hs : s < 2) (hO : ch_Ok b) (H : post (ch_no d b s)) : wpY_without post (yg, nI s, yh, yl, ya, yb, b, yF, yT, yM, yC, yp, yt, yz) (nI d) := by
  unfold wpY_without
  dsimp only
  refine cy_inCheck hs hO ?_
  unfold ch_no at H
  cases hc : ch_ck b s with
  | true => rw [hc, if_pos rfl] at H; exact br_f (by decide) H
  | false => rw [hc, if_neg (by decide)] at H; exact br_t rfl H
end
section
variable {yl ya yb : Int32} {b yF yT yM yC yp yt yz : Nat → Int32}
theorem cy_mv_l {post : Int32 → SY → Prop} {yg : Int32} {s h : Nat} (hs : s < 2) (hO : ch_Ok b) (hh : h < 70) : ∀ d q yF yT yM yC, q + d = 1296 →
    (∀ F T M C, ch_e4 h yF yT yM yC F T M C → post (nI (ch_ct (ch_lg b s) 1296)) (yg, nI s, nI h, yl, ya, yb, b, F, T, M, C, yp, yt, yz)) → wY_moves_13 post (d + 1) (nI (ch_ct (ch_lg b s) q)) (nI q) yg (nI s) (nI h) yl ya yb b yF yT yM yC yp yt yz := by
  intro d
  induction d with
  | zero =>
    intro q yF yT yM yC hq H
    have e : q = 1296 := by omega
    subst e
    exact br_t (nI_le (Nat.le_refl 1296) (by decide)) (H yF yT yM yC ch_e4_r)
  | succ d ih =>
    intro q yF yT yM yC hq H
    have hq2 : q < 1296 := by omega
    refine br_f (nI_ge (b := 1296) hq2 (by decide)) ⟨by decide, by decide, ?_⟩
    rw [ch_r36 hq2, ch_d36 hq2]
    refine cy_isLegal hs hO (by omega) (by omega) hh fun F T M C e => ?_
    have h1 := ih (q + 1) F T M C (by omega) fun F' T' M' C' e' => H F' T' M' C' (ch_e4_t e e')
    cases hl : ch_lp b s (q / 36) (q % 36) with
    | false =>
      rw [ch_ct_f (p := ch_lg b s) hl] at h1
      exact br_t rfl (nm_r (nI_1 q) h1)
    | true =>
      rw [ch_ct_t (p := ch_lg b s) hl] at h1
      exact br_f (by decide) (nm_r (nI_1 _) (nm_r (nI_1 q) h1))
theorem cy_moves {post : Int32 → SY → Prop} {s h : Nat} (hs : s < 2) (hO : ch_Ok b) (hh : h < 70) (H : ∀ F T M C, ch_e4 h yF yT yM yC F T M C → post (nI (ch_L b s).length) (1, nI s, nI h, yl, ya, yb, b, F, T, M, C, yp, yt, yz)) : wpY_moves post (1, nI s, nI h, yl, ya, yb, b, yF, yT, yM, yC, yp, yt, yz) := by
  unfold ch_L at H
  rw [ch_Rlen0] at H
  exact br_f (by decide) ⟨1297, cy_mv_l hs hO hh 1296 0 yF yT yM yC (by omega) H⟩
theorem cy_result {post : Int32 → SY → Prop} {s h : Nat} (hs : s < 2) (hO : ch_Ok b) (hh : h ≤ 60) (H : ∀ F T M C, ch_e4 h yF yT yM yC F T M C → post (ch_ov b s h (ch_st (ch_eq yp b) h) (ch_qt yM yC h)) (1, nI s, nI h, yl, ya, yb, b, F, T, M, C, yp, yt, yz)) : wpY_result post (1, nI s, nI h, yl, ya, yb, b, yF, yT, yM, yC, yp, yt, yz) := by
  refine br_f (by decide) (cy_nextLegal (q := 0) hs hO (by omega) (by omega) fun F T M C e => ?_)
  have H := H F T M C e
  have eL : ch_Rl (ch_lg b s) 0 = ch_L b s := rfl
  rw [eL]
  unfold ch_ov at H
  by_cases eN : ch_L b s = []
  · rw [if_pos eN] at H
    refine br_t (by rw [eN]; rfl) (cy_inCheck hs hO ?_)
    cases hc : ch_ck b s with
    | true => rw [hc] at H; exact br_f (by decide) H
    | false => rw [hc] at H; exact br_t rfl H
  · rw [if_neg eN] at H
    have hlt : ch_hY (ch_L b s) < 1296 := by
      cases hl : ch_L b s with
      | nil => exact absurd hl eN
      | cons p r => exact (ch_L_mem (by rw [hl]; exact List.mem_cons_self)).1
    refine br_f (fun q => absurd ((nI_eq (b := 1296) (by omega) (by decide)).mp q) (by omega)) (cy_standings hh ?_)
    have hst := ch_st_le (ch_eq yp b) h h (Nat.le_refl h)
    by_cases h3 : 3 ≤ ch_st (ch_eq yp b) h
    · rw [if_pos h3] at H
      exact br_f (nI_nlt (b := 3) h3 (by omega)) H
    · rw [if_neg h3] at H
      refine br_t (nI_lt (b := 3) (by omega) (by decide)) (cy_quiet hh ?_)
      rw [ch_qt_congr h fun i hi => ⟨e.2.2.1 i hi, e.2.2.2 i hi⟩]
      have hq := ch_qt_le yM yC h
      by_cases h20 : 20 ≤ ch_qt yM yC h
      · rw [if_pos h20] at H
        exact br_f (nI_nlt (b := 20) h20 (by omega)) H
      · rw [if_neg h20] at H
        refine br_t (nI_lt (b := 20) (by omega) (by decide)) ?_
        by_cases h6 : 60 ≤ h
        · rw [if_pos h6] at H
          exact br_f (nI_nlt (b := 60) h6 (by omega)) H
        · rw [if_neg h6] at H
          exact br_t (nI_lt (b := 60) (by omega) (by decide)) H
theorem cy_ma_l {post : Int32 → SY → Prop} {yg x1 : Int32} {s h : Nat} (h1 : ¬ x1 < 0) (hs : s < 2) (hO : ch_Ok b) (hh : h < 70) : ∀ d q l yF yT yM yC, q + d = 1296 → l < 2 ^ 31 →
    (∀ F T M C, ch_e4 h yF yT yM yC F T M C → post (ch_nt (ch_Rl (ch_lg b s) q) l) (yg, nI s, nI h, yl, ya, yb, b, F, T, M, C, yp, yt, yz)) → wY_moveAt_13 post x1 (d + 1) (nI l) (nI q) yg (nI s) (nI h) yl ya yb b yF yT yM yC yp yt yz := by
  intro d
  induction d with
  | zero =>
    intro q l yF yT yM yC hq hl H
    have e : q = 1296 := by omega
    subst e
    have H0 := H yF yT yM yC ch_e4_r
    rw [ch_Re (Nat.le_refl 1296)] at H0
    exact br_t (nI_le (Nat.le_refl 1296) (by decide)) H0
  | succ d ih =>
    intro q l yF yT yM yC hq hl H
    have hq2 : q < 1296 := by omega
    refine br_f (nI_ge (b := 1296) hq2 (by decide)) (br_f h1 ⟨by decide, by decide, ?_⟩)
    rw [ch_r36 hq2, ch_d36 hq2]
    refine cy_isLegal hs hO (by omega) (by omega) hh fun F T M C e => ?_
    cases hg : ch_lp b s (q / 36) (q % 36) with
    | false =>
      refine br_t rfl (nm_r (nI_1 q) (ih (q + 1) l F T M C (by omega) hl fun F' T' M' C' e' => ?_))
      have H0 := H F' T' M' C' (ch_e4_t e e')
      rw [ch_Rf hq2 hg] at H0
      exact H0
    | true =>
      refine br_f (by decide) ?_
      by_cases z : l = 0
      · subst z
        have H0 := H F T M C e
        rw [ch_Rt hq2 hg] at H0
        refine br_t nI_0 ⟨by decide, by decide, ?_⟩
        rw [show (64 : Int32) = nI 64 from rfl, pk_mul, nI_add]
        exact H0
      · obtain ⟨l', rfl⟩ : ∃ l', l = l' + 1 := ⟨l - 1, by omega⟩
        refine br_f (nI_ne0 (by omega) hl) (nm_r (pk_m1 l') (nm_r (nI_1 q) (ih (q + 1) l' F T M C (by omega) (by omega) fun F' T' M' C' e' => ?_)))
        have H0 := H F' T' M' C' (ch_e4_t e e')
        rw [ch_Rt hq2 hg] at H0
        exact H0
theorem cy_mo_l {post : Int32 → SY → Prop} {yg : Int32} {s f h : Nat} (hs : s < 2) (hO : ch_Ok b) (hf : f < 36) (hh : h < 70) : ∀ d q yF yT yM yC, q + d = 36 →
    (∀ F T M C, ch_e4 h yF yT yM yC F T M C → post (nI (ch_ct (ch_lp b s f) 36)) (yg, nI s, nI h, yl, ya, yb, b, F, T, M, C, yp, yt, yz)) → wY_mobile_13 post (nI f) (d + 1) (nI (ch_ct (ch_lp b s f) q)) (nI q) yg (nI s) (nI h) yl ya yb b yF yT yM yC yp yt yz := by
  intro d
  induction d with
  | zero =>
    intro q yF yT yM yC hq H
    have e : q = 36 := by omega
    subst e
    exact br_t (nI_le (Nat.le_refl 36) (by decide)) (H yF yT yM yC ch_e4_r)
  | succ d ih =>
    intro q yF yT yM yC hq H
    refine br_f (nI_ge (b := 36) (by omega) (by decide)) (cy_sq_in hf (br_f (by decide) (cy_isLegal hs hO hf (by omega) hh fun F T M C e => ?_)))
    have h1 := ih (q + 1) F T M C (by omega) fun F' T' M' C' e' => H F' T' M' C' (ch_e4_t e e')
    cases hl : ch_lp b s f q with
    | false =>
      rw [ch_ct_f hl] at h1
      exact br_t rfl (nm_r (nI_1 q) h1)
    | true =>
      rw [ch_ct_t hl] at h1
      exact br_f (by decide) (nm_r (nI_1 _) (nm_r (nI_1 q) h1))
end
end
section
/-! the reference: the search -/
theorem ch_upd_self (a : Nat → Int32) (k : Nat) : upd a k (a k) = a := by
  funext i
  unfold upd
  by_cases e : i = k
  · rw [if_pos e, e]
  · rw [if_neg e]
theorem ch_num {p : Nat} (hp : p < 1296) : (64 * ((nI (p + 1) - 1) / 36)) + ((nI (p + 1) - 1) - (nI (p + 1) - 1) / 36 * 36) = nI (ch_nm p) := by
  rw [nI_pred, ch_r36 hp, ch_d36 hp, show (64 : Int32) = nI 64 from rfl, pk_mul, nI_add]
  rfl
section
variable {yg ym yh yl ya yb : Int32} {b yF yT yM yC yp yt yz : Nat → Int32}
theorem cy_goBack {post : SY → Prop} {s f t h L p : Nat} (hm : (1 : Int32) - ym = nI s) (hf : f < 36) (ht : t < 36) (hh : h < 70) (eF : yF h = nI f) (eT : yT h = nI t) (hL : L < 4) (hp : p < 1296) (e0 : L = 0 → yt 0 = nI (p + 1))
    (H : post (yg, nI s, nI h, yl, ya, (if L = 0 then (if yz L < -ya then nI (ch_nm p) else yb) else yb), upd (upd b f (yM h)) t (yC h), yF, yT, yM, yC, yp, yt, upd yz L (if yz L < -ya then -ya else yz L))) : wpY_goBack post (yg, ym, nI (h + 1), yl, ya, yb, b, yF, yT, yM, yC, yp, yt, yz) (nI L) := by
  have cL : (nI L).toNatClampNeg = L := nI_clamp (by omega)
  have vL : vp_in (nI L) 4 := vp_in_nI hL (by decide)
  refine br_t (nI_pos' (by omega)) (cy_undoMove hm hf ht hh eF eT ⟨vL, ?_⟩)
  rw [cL]
  by_cases g : yz L < -ya
  · refine br_f (Int32.not_le.mpr g) ⟨vL, nm_r (e' := upd yz L (-ya)) rfl ?_⟩
    rw [if_pos g, if_pos g] at H
    by_cases z : L = 0
    · rw [if_pos z] at H
      refine br_t (by rw [z]; rfl) ⟨by decide, by decide, nm_r (e' := nI (ch_nm p)) ?_ H⟩
      rw [e0 z]
      exact ch_num hp
    · rw [if_neg z] at H
      exact br_f (nI_ne0 (by omega) (by omega)) H
  · rw [if_neg g, if_neg g, ch_upd_self] at H
    have H2 : post (yg, nI s, nI h, yl, ya, yb, upd (upd b f (yM h)) t (yC h), yF, yT, yM, yC, yp, yt, yz) := by
      by_cases z : L = 0
      · rw [if_pos z] at H; exact H
      · rw [if_neg z] at H; exact H
    exact br_t (Int32.not_lt.mp g) H2
/-- the end of a level: back to the level below -/
theorem cy_182 {post : SY → Prop} {W : Int32 → Int32 → Int32 → Int32 → Int32 → Int32 → Int32 → Int32 → (Nat → Int32) → (Nat → Int32) → (Nat → Int32) → (Nat → Int32) → (Nat → Int32) → (Nat → Int32) → (Nat → Int32) → (Nat → Int32) → Prop} {x1 : Int32} {s f t h L p r : Nat} (hm : (1 : Int32) - ym = nI s) (hf : f < 36) (ht : t < 36) (hh : h < 70) (eF : yF h = nI f) (eT : yT h = nI t) (hL : L < 4) (hp : p < 1296) (e0 : L = 0 → yt 0 = nI (p + 1))
    (H : W (nI L) (nI (r + 1)) yg (nI s) (nI h) yl ya (if L = 0 then (if yz L < -ya then nI (ch_nm p) else yb) else yb) (upd (upd b f (yM h)) t (yC h)) yF yT yM yC yp yt (upd yz L (if yz L < -ya then -ya else yz L))) : wY_search_182 post W x1 (nI (L + 1)) (nI r) yg ym (nI (h + 1)) yl ya yb b yF yT yM yC yp yt yz :=
  nm_r (e' := nI L) (pk_m1 L) (cy_goBack hm hf ht hh eF eT hL hp e0 (nm_r (nI_1 r) H))
end
section
variable {yg yl ya yb : Int32} {b yF yT yM yC yp yt yz : Nat → Int32}
theorem cy_step {post : SY → Prop} {D m L r h s : Nat} (hs : s < 2) (hO : ch_Ok b) (hL : L < 4) (hr : r < 1000000) (hh : h < 70) :
    (L = D → wY_search_67 post (wY_search_36 post (nI D) m) (nI D) (nI L) (nI r) 1296 yg (nI s) (nI h) yl ya yb b yF yT yM yC yp yt yz) → (L < D → D ≤ 3 → ∃ q, q ≤ 1296 ∧ yt L = nI q ∧ ∀ F T M C, ch_e4 h yF yT yM yC F T M C → wY_search_67 post (wY_search_36 post (nI D) m) (nI D) (nI L) (nI r) (nI (ch_hY (ch_Rl (ch_lg b s) q))) yg (nI s) (nI h) yl ya yb b F T M C yp yt yz) → L ≤ D → D ≤ 3 → wY_search_36 post (nI D) (m + 1) (nI L) (nI r) yg (nI s) (nI h) yl ya yb b yF yT yM yC yp yt yz := by
  intro h1 h2 hLD hD
  have cL : (nI L).toNatClampNeg = L := nI_clamp (by omega)
  refine br_f (nI_ge (b := 1000000) hr (by decide)) (br_f (nI_pos (by omega)) ?_)
  by_cases e : L = D
  · exact br_t (by rw [e]) (h1 e)
  · obtain ⟨q, q1, q2, q3⟩ := h2 (by omega) hD
    refine br_f (fun z => e ((nI_eq (by omega) (by omega)).mp z)) ⟨vp_in_nI hL (by decide), ?_⟩
    rw [cL, q2]
    exact cy_nextLegal hs hO hh q1 q3
/-- a move is made -/
theorem cy_down {post : SY → Prop} {D m L r h s q p : Nat} {rest : List Nat} (hs : s < 2) (hO : ch_Ok b) (hD : D ≤ 3) (hL : L < D) (hr : r < 1000000) (hh : h < 70) (hq : q ≤ 1296) (eq : yt L = nI q) (er : ch_Rl (ch_lg b s) q = p :: rest)
    (H : ∀ F T M C, ch_e4 h yF yT yM yC F T M C → wY_search_36 post (nI D) m (nI (L + 1)) (nI (r + 1)) yg (nI (1 - s)) (nI (h + 1)) yl ya yb (ch_pp b s p) (upd F h (nI (p / 36))) (upd T h (nI (p % 36))) (upd M h (b (p / 36))) (upd C h (b (p % 36))) yp (upd (upd yt L (nI (p + 1))) (L + 1) 0) (upd yz (L + 1) (-5000))) :
    wY_search_36 post (nI D) (m + 1) (nI L) (nI r) yg (nI s) (nI h) yl ya yb b yF yT yM yC yp yt yz := by
  have cL : (nI L).toNatClampNeg = L := nI_clamp (by omega)
  have cL1 : (nI (L + 1)).toNatClampNeg = L + 1 := nI_clamp (by omega)
  have vL : vp_in (nI L) 4 := vp_in_nI (by omega) (by decide)
  have vL1 : vp_in (nI (L + 1)) 4 := vp_in_nI (by omega) (by decide)
  obtain ⟨-, hp, hg, -, -⟩ := ch_Rcons _ _ rfl p rest er
  obtain ⟨p1, p2, p3⟩ := ch_lg_in hp hg
  refine cy_step hs hO (by omega) hr hh (fun e => by omega) (fun _ _ => ⟨q, hq, eq, fun F T M C e => ?_⟩) (by omega) hD
  rw [er]
  show wY_search_67 post (wY_search_36 post (nI D) m) (nI D) (nI L) (nI r) (nI p) yg (nI s) (nI h) yl ya yb b F T M C yp yt yz
  refine br_f (nI_ge (b := 1296) hp (by decide)) ⟨vL, nm_r (e' := upd yt L (nI (p + 1))) (by rw [cL, nI_1]) ⟨by decide, by decide, ?_⟩⟩
  rw [ch_r36 hp, ch_d36 hp]
  exact cy_doMove hs hO p1 p2 hh p3 (nm_r (nI_1 L) ⟨vL1, nm_r (e' := upd (upd yt L (nI (p + 1))) (L + 1) 0) (by rw [cL1]) ⟨vL1, nm_r (e' := upd yz (L + 1) (-5000)) (by rw [cL1]) (nm_r (nI_1 r) (H F T M C e))⟩⟩)
/-- no move is left -/
theorem cy_none {post : SY → Prop} {D m L r h s q : Nat} (hs : s < 2) (hO : ch_Ok b) (hD : D ≤ 3) (hL : L < D) (hr : r < 1000000) (hh : h < 70) (hq : q ≤ 1296) (eq : yt L = nI q) (er : ch_Rl (ch_lg b s) q = [])
    (H : ∀ F T M C, ch_e4 h yF yT yM yC F T M C → wY_search_182 post (wY_search_36 post (nI D) m) (nI D) (nI L) (nI r) yg (nI s) (nI h) yl (if yz L ≤ -5000 then ch_no (D - L) b s else yz L) yb b F T M C yp yt yz) :
    wY_search_36 post (nI D) (m + 1) (nI L) (nI r) yg (nI s) (nI h) yl ya yb b yF yT yM yC yp yt yz := by
  have cL : (nI L).toNatClampNeg = L := nI_clamp (by omega)
  have vL : vp_in (nI L) 4 := vp_in_nI (by omega) (by decide)
  refine cy_step hs hO (by omega) hr hh (fun e => by omega) (fun _ _ => ⟨q, hq, eq, fun F T M C e => ?_⟩) (by omega) hD
  rw [er]
  show wY_search_67 post (wY_search_36 post (nI D) m) (nI D) (nI L) (nI r) 1296 yg (nI s) (nI h) yl ya yb b F T M C yp yt yz
  have H := H F T M C e
  refine br_t (by decide) ?_
  rw [pk_sub (by omega)]
  have hne : ¬ nI L = nI D := fun z => by have := (nI_eq (by omega) (by omega)).mp z; omega
  refine cy_without hs hO ⟨vL, ?_⟩
  rw [cL]
  by_cases g : yz L ≤ -5000
  · rw [if_pos g] at H
    exact br_t g (br_f hne H)
  · rw [if_neg g] at H
    exact br_f g ⟨vL, br_f hne H⟩
/-- the last level: the balance -/
theorem cy_leaf {post : SY → Prop} {D m r h s : Nat} (hs : s < 2) (hO : ch_Ok b) (hD : D ≤ 3) (hr : r < 1000000) (hh : h < 70)
    (H : wY_search_182 post (wY_search_36 post (nI D) m) (nI D) (nI D) (nI r) yg (nI s) (nI h) (yl + 1) (ch_bl b s) yb b yF yT yM yC yp yt yz) :
    wY_search_36 post (nI D) (m + 1) (nI D) (nI r) yg (nI s) (nI h) yl ya yb b yF yT yM yC yp yt yz := by
  have cL : (nI D).toNatClampNeg = D := nI_clamp (by omega)
  have vL : vp_in (nI D) 4 := vp_in_nI (by omega) (by decide)
  refine cy_step hs hO (by omega) hr hh (fun _ => ?_) (fun z => by omega) (Nat.le_refl D) hD
  have h156 : ∀ z, wY_search_156 post (wY_search_36 post (nI D) m) (nI D) (nI D) (nI r) z yg (nI s) (nI h) yl ya yb b yF yT yM yC yp yt yz := fun z => br_t rfl (nm_e (cy_balance hs hO H))
  refine br_t (by decide) ?_
  rw [pk_sub (Nat.le_refl D)]
  refine cy_without hs hO ⟨vL, ?_⟩
  exact br_c (fun _ => h156 _) (fun _ => ⟨vL, h156 _⟩)
end
/-- what a child of depth d does: from its first step on to its parent's next -/
def ch_YC (post : SY → Prop) (D h d : Nat) (yg : Int32) (yp : Nat → Int32) : Prop :=
  ∀ (L s p r n : Nat) (b yF yT yM yC yt yz : Nat → Int32) (yl ya yb : Int32), D = L + 1 + d → s < 2 → ch_Ok b → p < 1296 → ch_lg b s p = true → yt 0 = yt 0 → (L = 0 → yt 0 = nI (p + 1)) → yt (L + 1) = 0 → yz (L + 1) = -5000 →
    yF (h + L) = nI (p / 36) → yT (h + L) = nI (p % 36) → yM (h + L) = b (p / 36) → yC (h + L) = b (p % 36) → r + ch_T d (ch_pp b s p) (1 - s) < 1000000 → n + r = 1000001 →
    (∀ n' F T M C ya' yt' yz', n' + (r + ch_T d (ch_pp b s p) (1 - s)) = 1000001 → ch_e4 (h + L) yF yT yM yC F T M C → ch_e1 (L + 1) yt yt' → ch_e1 L yz yz' → yz' L = (if yz L < -ch_w d b s p then -ch_w d b s p else yz L) →
      wY_search_36 post (nI D) n' (nI L) (nI (r + ch_T d (ch_pp b s p) (1 - s))) yg (nI s) (nI (h + L)) (yl + nI (ch_cn d (ch_pp b s p) (1 - s))) ya' (if L = 0 then (if yz L < -ch_w d b s p then nI (ch_nm p) else yb) else yb) b F T M C yp yt' yz') →
    wY_search_36 post (nI D) n (nI (L + 1)) (nI r) yg (nI (1 - s)) (nI (h + L + 1)) yl ya yb (ch_pp b s p) yF yT yM yC yp yt yz
theorem ch_back_pp {b : Nat → Int32} {s p : Nat} (hp : p < 1296) (hg : ch_lg b s p = true) : upd (upd (ch_pp b s p) (p / 36) (b (p / 36))) (p % 36) (b (p % 36)) = b := by
  obtain ⟨-, -, p3⟩ := ch_lg_in hp hg
  exact ch_back (ch_cg_ow p3).2.2
theorem cy_ch0 {post : SY → Prop} {D h : Nat} {yg : Int32} {yp : Nat → Int32} (hD : D ≤ 3) (hh : h ≤ 60) : ch_YC post D h 0 yg yp := by
  intro L s p r n b yF yT yM yC yt yz yl ya yb eD hs hO hp hg _ e0 et ez eF eT eM eC hr hn K
  obtain ⟨p1, p2, p3⟩ := ch_lg_in hp hg
  obtain ⟨m, rfl⟩ : ∃ m, n = m + 1 := ⟨n - 1, by omega⟩
  have eT0 : ch_T 0 (ch_pp b s p) (1 - s) = 1 := rfl
  rw [eT0] at hr K
  have eL : D = L + 1 := by omega
  subst eL
  refine cy_leaf (by omega) (ch_Ok_pl hO p1) hD (by omega) (by omega) (cy_182 (s := s) (h := h + L) (ch_mu hs) p1 p2 (by omega) eF eT (by omega) hp e0 ?_)
  rw [eM, eC, ch_back_pp hp hg]
  exact K m yF yT yM yC _ yt _ (by omega) ch_e4_r ch_e1_r (ch_e1_u (Nat.le_refl L)) pk_us
/-- the moves of a level, one after another -/
theorem cy_row {post : SY → Prop} {D h d : Nat} {yg : Int32} {yp : Nat → Int32} (hD : D ≤ 3) (hh : h ≤ 60) (hC : ch_YC post D h d yg yp) {L s : Nat} {b : Nat → Int32} (eD : D = L + 1 + d) (hs : s < 2) (hO : ch_Ok b) :
    ∀ (rest : List Nat) (q r n : Nat) (yF yT yM yC yt yz : Nat → Int32) (yl ya yb : Int32), ch_Rl (ch_lg b s) q = rest → q ≤ 1296 → yt L = nI q → r + ch_sm (fun p => 1 + ch_T d (ch_pp b s p) (1 - s)) rest < 1000000 → n + r = 1000001 →
    (∀ n' q' F T M C ya' yt' yz', n' + (r + ch_sm (fun p => 1 + ch_T d (ch_pp b s p) (1 - s)) rest) = 1000001 → q' ≤ 1296 → ch_Rl (ch_lg b s) q' = [] → ch_e4 (h + L) yF yT yM yC F T M C → ch_e1 L yt yt' → yt' L = nI q' → ch_e1 L yz yz' → yz' L = ch_mx (ch_w d b s) (yz L) rest →
      wY_search_36 post (nI D) n' (nI L) (nI (r + ch_sm (fun p => 1 + ch_T d (ch_pp b s p) (1 - s)) rest)) yg (nI s) (nI (h + L)) (yl + nI (ch_sm (fun p => ch_cn d (ch_pp b s p) (1 - s)) rest)) ya' (if L = 0 then ch_bm (ch_w d b s) (yz L) yb rest else yb) b F T M C yp yt' yz') →
    wY_search_36 post (nI D) n (nI L) (nI r) yg (nI s) (nI (h + L)) yl ya yb b yF yT yM yC yp yt yz := by
  intro rest
  induction rest with
  | nil =>
    intro q r n yF yT yM yC yt yz yl ya yb er hq et hr hn K
    have K := K n q yF yT yM yC ya yt yz (by simp only [ch_sm]; omega) hq er ch_e4_r ch_e1_r et ch_e1_r rfl
    simp only [ch_sm, ch_bm, Nat.add_zero, nI_0, Int32.add_zero, ite_self] at K
    exact K
  | cons p rest ih =>
    intro q r n yF yT yM yC yt yz yl ya yb er hq et hr hn K
    obtain ⟨-, hp, hg, e4, -⟩ := ch_Rcons _ _ rfl p rest er
    obtain ⟨m, rfl⟩ : ∃ m, n = m + 1 := ⟨n - 1, by omega⟩
    simp only [ch_sm] at hr K
    refine cy_down hs hO hD (by omega) (by omega) (by omega) hq et er fun F T M C e => ?_
    refine hC L s p (r + 1) m b _ _ _ _ _ _ yl ya yb eD hs hO hp hg rfl (fun z => ?_) pk_us pk_us pk_us pk_us pk_us pk_us (by omega) (by omega) ?_
    · subst z; rw [pk_un (by omega), pk_us]
    · intro n' F' T' M' C' ya' yt' yz' hn' e' e1 e2 e3
      rw [pk_un (show L ≠ L + 1 by omega)] at e3
      refine ih (p + 1) _ n' F' T' M' C' yt' yz' _ ya' _ e4.symm (by omega) ?_ (by omega) hn' ?_
      · rw [e1 L (by omega), pk_un (by omega), pk_us]
      · intro n2 q2 F2 T2 M2 C2 ya2 yt2 yz2 hn2 hq2 er2 a4 a1 a2 a3 a5
        have ef : r + 1 + ch_T d (ch_pp b s p) (1 - s) + ch_sm (fun p => 1 + ch_T d (ch_pp b s p) (1 - s)) rest = r + (1 + ch_T d (ch_pp b s p) (1 - s) + ch_sm (fun p => 1 + ch_T d (ch_pp b s p) (1 - s)) rest) := by omega
        have K := K n2 q2 F2 T2 M2 C2 ya2 yt2 yz2 (by omega) hq2 er2 (ch_e4_t e (ch_e4_t (ch_e4_u (Nat.le_refl _)) (ch_e4_t e' a4))) ?_ a2 ?_ ?_
        · rw [ef, Int32.add_assoc, nI_add]
          have eb : (if L = 0 then ch_bm (ch_w d b s) (yz L) yb (p :: rest) else yb) = (if L = 0 then ch_bm (ch_w d b s) (yz' L) (if L = 0 then (if upd yz (L + 1) (-5000) L < -ch_w d b s p then nI (ch_nm p) else yb) else yb) rest else (if L = 0 then (if upd yz (L + 1) (-5000) L < -ch_w d b s p then nI (ch_nm p) else yb) else yb)) := by
            by_cases z : L = 0
            · rw [if_pos z, if_pos z, if_pos z, e3, pk_un (show L ≠ L + 1 by omega)]
              rfl
            · rw [if_neg z, if_neg z, if_neg z]
          rw [← eb]
          exact K
        · exact ch_e1_t (ch_e1_t (ch_e1_u (Nat.le_refl L)) (ch_e1_u (by omega))) (ch_e1_t (ch_e1_m e1 (by omega)) a1)
        · exact ch_e1_t (ch_e1_t (ch_e1_u (by omega)) e2) a3
        · rw [a5, e3]; rfl
theorem ch_fin {d : Nat} (hd : d ≤ 2) (b : Nat → Int32) (s : Nat) : (if ch_mx (ch_w d b s) (-5000) (ch_L b s) ≤ -5000 then ch_no (d + 1) b s else ch_mx (ch_w d b s) (-5000) (ch_L b s)) = ch_v (d + 1) b s := by
  cases hl : ch_L b s with
  | nil => rw [if_pos (show ch_mx (ch_w d b s) (-5000) [] ≤ -5000 from Int32.le_refl _), ch_v_nil hl]
  | cons p r =>
    have hw : ∀ q, ch_in (ch_w d b s q) := fun q => ch_v_in d (by omega) _ _
    have e : ch_mx (ch_w d b s) (-5000) (p :: r) = ch_mx (ch_w d b s) (-ch_w d b s p) r := by
      simp only [ch_mx]
      rw [if_pos (ch_in_gt (hw p)).1]
    rw [e, ch_v_cons hl, if_neg]
    exact Int32.not_le.mpr (ch_in_gt (ch_mx_in hw r _ (ch_in_neg (hw p)))).2.2.1
theorem cy_chs {post : SY → Prop} {D h d : Nat} {yg : Int32} {yp : Nat → Int32} (hD : D ≤ 3) (hh : h ≤ 60) (hC : ch_YC post D h d yg yp) : ch_YC post D h (d + 1) yg yp := by
  intro L s p r n b yF yT yM yC yt yz yl ya yb eD hs hO hp hg _ e0 et ez eF eT eM eC hr hn K
  obtain ⟨p1, p2, p3⟩ := ch_lg_in hp hg
  have hO2 : ch_Ok (ch_pp b s p) := ch_Ok_pl hO p1
  have eT1 : ch_T (d + 1) (ch_pp b s p) (1 - s) = 1 + ch_sm (fun q => 1 + ch_T d (ch_pp (ch_pp b s p) (1 - s) q) (1 - (1 - s))) (ch_L (ch_pp b s p) (1 - s)) := rfl
  have eC1 : ch_cn (d + 1) (ch_pp b s p) (1 - s) = ch_sm (fun q => ch_cn d (ch_pp (ch_pp b s p) (1 - s) q) (1 - (1 - s))) (ch_L (ch_pp b s p) (1 - s)) := rfl
  rw [eT1] at hr K
  rw [eC1] at K
  refine cy_row (L := L + 1) hD hh hC (by omega) (by omega) hO2 (ch_L (ch_pp b s p) (1 - s)) 0 r n yF yT yM yC yt yz yl ya yb rfl (by omega) et (by omega) hn ?_
  intro n' q' F T M C ya' yt' yz' hn' hq' er' a4 a1 a2 a3 a5
  obtain ⟨m, rfl⟩ : ∃ m, n' = m + 1 := ⟨n' - 1, by omega⟩
  refine cy_none (by omega) hO2 hD (by omega) (by omega) (by omega) hq' a2 er' fun F2 T2 M2 C2 b4 => ?_
  rw [if_neg (show ¬ L + 1 = 0 by omega)]
  have hF : F2 (h + L) = nI (p / 36) := by rw [b4.1 (h + L) (by omega), a4.1 (h + L) (by omega), eF]
  have hT : T2 (h + L) = nI (p % 36) := by rw [b4.2.1 (h + L) (by omega), a4.2.1 (h + L) (by omega), eT]
  have hM : M2 (h + L) = b (p / 36) := by rw [b4.2.2.1 (h + L) (by omega), a4.2.2.1 (h + L) (by omega), eM]
  have hC2 : C2 (h + L) = b (p % 36) := by rw [b4.2.2.2 (h + L) (by omega), a4.2.2.2 (h + L) (by omega), eC]
  have hv : (if yz' (L + 1) ≤ -5000 then ch_no (D - (L + 1)) (ch_pp b s p) (1 - s) else yz' (L + 1)) = ch_w (d + 1) b s p := by
    rw [a5, ez, show D - (L + 1) = d + 1 by omega]
    exact ch_fin (by omega) _ _
  rw [hv]
  refine cy_182 (s := s) (h := h + L) (ch_mu hs) p1 p2 (by omega) hF hT (by omega) hp (fun z => ?_) ?_
  · rw [a1 0 (by omega)]; exact e0 z
  · rw [hM, hC2, ch_back_pp hp hg]
    have ezL : yz' L = yz L := a3 L (by omega)
    have K := K m F2 T2 M2 C2 (ch_w (d + 1) b s p) yt' (upd yz' L (if yz' L < -ch_w (d + 1) b s p then -ch_w (d + 1) b s p else yz' L)) (by omega) (ch_e4_t (ch_e4_m a4 (by omega)) (ch_e4_m b4 (by omega))) a1 (ch_e1_t (ch_e1_m a3 (by omega)) (ch_e1_u (Nat.le_refl L))) (by rw [pk_us, ezL])
    rw [ezL] at K ⊢
    rw [show r + ch_sm (fun q => 1 + ch_T d (ch_pp (ch_pp b s p) (1 - s) q) (1 - (1 - s))) (ch_L (ch_pp b s p) (1 - s)) + 1 = r + (1 + ch_sm (fun q => 1 + ch_T d (ch_pp (ch_pp b s p) (1 - s) q) (1 - (1 - s))) (ch_L (ch_pp b s p) (1 - s))) by omega]
    exact K
theorem cy_ch {post : SY → Prop} {D h : Nat} {yg : Int32} {yp : Nat → Int32} (hD : D ≤ 3) (hh : h ≤ 60) : ∀ d, ch_YC post D h d yg yp := by
  intro d
  induction d with
  | zero => exact cy_ch0 hD hh
  | succ d ih => exact cy_chs hD hh ih
end
section
/-! the reference: the search from its root; mates -/
def ch_be : Nat → (Nat → Int32) → Nat → Int32
  | 0, _, _ => -3
  | d + 1, b, s => ch_bm (ch_w d b s) (-5000) (-3) (ch_L b s)
section
variable {yg ym yh yl ya yb : Int32} {b yF yT yM yC yp yt yz : Nat → Int32}
theorem cy_end {post : SY → Prop} {D m r : Nat} (hr : r + 1 < 1000000) (H : post (yg, ym, yh, yl, ya, yb, b, yF, yT, yM, yC, yp, yt, yz)) : wY_search_182 post (wY_search_36 post (nI D) (m + 1)) (nI D) (nI 0) (nI r) yg ym yh yl ya yb b yF yT yM yC yp yt yz :=
  nm_r (e' := -1) (by decide) (br_f (by decide) (nm_r (nI_1 r) (br_f (nI_ge (b := 1000000) hr (by decide)) (br_t (by decide) H))))
theorem cy_search0 {post : SY → Prop} {s h : Nat} (hs : s < 2) (hO : ch_Ok b) (hh : h ≤ 60)
    (H : ∀ F T M C yt' yz', ch_e4 h yF yT yM yC F T M C → post (yg, nI s, nI h, nI (ch_cn 0 b s), ch_v 0 b s, ch_be 0 b s, b, F, T, M, C, yp, yt', yz')) :
    ∀ n, n + 0 = 1000001 → wY_search_36 post (nI 0) n (nI 0) (nI 0) yg (nI s) (nI h) 0 0 (-3) b yF yT yM yC yp (upd yt 0 0) (upd yz 0 (-5000)) := by
  intro n hn
  obtain ⟨m, rfl⟩ : ∃ m, n = m + 1 := ⟨n - 1, by omega⟩
  obtain ⟨m, rfl⟩ : ∃ k, m = k + 1 := ⟨m - 1, by omega⟩
  have H0 := H yF yT yM yC (upd yt 0 0) (upd yz 0 (-5000)) ch_e4_r
  refine cy_leaf hs hO (by omega) (by omega) (by omega) (cy_end (by omega) ?_)
  exact H0
theorem cy_searchs {post : SY → Prop} {s h d : Nat} (hd : d ≤ 2) (hs : s < 2) (hO : ch_Ok b) (hz : ch_nz b ≤ 6) (hh : h ≤ 60)
    (H : ∀ F T M C yt' yz', ch_e4 h yF yT yM yC F T M C → post (yg, nI s, nI h, nI (ch_cn (d + 1) b s), ch_v (d + 1) b s, ch_be (d + 1) b s, b, F, T, M, C, yp, yt', yz')) :
    ∀ n, n + 0 = 1000001 → wY_search_36 post (nI (d + 1)) n (nI 0) (nI 0) yg (nI s) (nI h) 0 0 (-3) b yF yT yM yC yp (upd yt 0 0) (upd yz 0 (-5000)) := by
  intro n hn
  have hT := ch_T_num (d := d + 1) (b := b) (s := s) (by omega) hs hz
  have eT1 : ch_T (d + 1) b s = 1 + ch_sm (fun q => 1 + ch_T d (ch_pp b s q) (1 - s)) (ch_L b s) := rfl
  rw [eT1] at hT
  refine cy_row (L := 0) (h := h) (by omega) hh (cy_ch (by omega) hh d) (by omega) hs hO (ch_L b s) 0 0 n yF yT yM yC (upd yt 0 0) (upd yz 0 (-5000)) 0 0 (-3) rfl (by omega) pk_us (by omega) hn ?_
  intro n' q' F T M C ya' yt' yz' hn' hq' er' a4 a1 a2 a3 a5
  obtain ⟨m, rfl⟩ : ∃ m, n' = m + 1 := ⟨n' - 1, by omega⟩
  obtain ⟨m, rfl⟩ : ∃ k, m = k + 1 := ⟨m - 1, by omega⟩
  refine cy_none hs hO (by omega) (by omega) (by omega) (by omega) hq' a2 er' fun F2 T2 M2 C2 b4 => ?_
  have hv : (if yz' 0 ≤ -5000 then ch_no (d + 1 - 0) b s else yz' 0) = ch_v (d + 1) b s := by
    rw [a5, pk_us]
    exact ch_fin (by omega) b s
  rw [hv, if_pos rfl, pk_us, Int32.zero_add]
  exact cy_end (by omega) (H F2 T2 M2 C2 yt' yz' (ch_e4_t a4 b4))
theorem cy_search {post : SY → Prop} {s h D : Nat} (hD : D ≤ 3) (hs : s < 2) (hO : ch_Ok b) (hz : ch_nz b ≤ 6) (hh : h ≤ 60)
    (H : ∀ F T M C yt' yz', ch_e4 h yF yT yM yC F T M C → post (yg, nI s, nI h, nI (ch_cn D b s), ch_v D b s, ch_be D b s, b, F, T, M, C, yp, yt', yz')) :
    wpY_search post (yg, nI s, nI h, yl, ya, yb, b, yF, yT, yM, yC, yp, yt, yz) (nI D) := by
  refine nm_e (nm_e ?_)
  cases D with
  | zero => exact ⟨1000001, cy_search0 hs hO hh H 1000001 rfl⟩
  | succ d => exact ⟨1000001, cy_searchs (by omega) hs hO hz hh H 1000001 rfl⟩
end
section
variable {yg yl ya yb : Int32} {b yF yT yM yC yp yt yz : Nat → Int32}
theorem cy_cm_l {post : Int32 → SY → Prop} {s h : Nat} (hs : s < 2) (hO : ch_Ok b) (hh : h < 69) : ∀ d q yF yT yM yC, q + d = 1296 →
    (∀ F T M C, ch_e4 h yF yT yM yC F T M C → post (ch_bI ((ch_Rl (ch_lg b s) q).any fun p => ch_mt (ch_pp b s p) (1 - s))) (yg, nI s, nI h, yl, ya, yb, b, F, T, M, C, yp, yt, yz)) → wY_canMate_2 post (d + 1) (nI q) yg (nI s) (nI h) yl ya yb b yF yT yM yC yp yt yz := by
  intro d
  induction d with
  | zero =>
    intro q yF yT yM yC hq H
    have e : q = 1296 := by omega
    subst e
    have H0 := H yF yT yM yC ch_e4_r
    rw [ch_Re (Nat.le_refl 1296)] at H0
    exact br_t (nI_le (Nat.le_refl 1296) (by decide)) H0
  | succ d ih =>
    intro q yF yT yM yC hq H
    have hq2 : q < 1296 := by omega
    refine br_f (nI_ge (b := 1296) hq2 (by decide)) ⟨by decide, by decide, ?_⟩
    rw [ch_r36 hq2, ch_d36 hq2]
    refine cy_isLegal hs hO (by omega) (by omega) (by omega) fun F T M C e => ?_
    cases hg : ch_lp b s (q / 36) (q % 36) with
    | false =>
      refine br_t rfl (nm_r (nI_1 q) (ih (q + 1) F T M C (by omega) fun F' T' M' C' e' => ?_))
      have H0 := H F' T' M' C' (ch_e4_t e e')
      rw [ch_Rf hq2 hg] at H0
      exact H0
    | true =>
      obtain ⟨p1, p2, p3⟩ := ch_lg_in hq2 hg
      have hO2 : ch_Ok (ch_pp b s q) := ch_Ok_pl hO p1
      rw [ch_Rt hq2 hg] at H
      simp only [List.any_cons] at H
      have goOn : ∀ F2 T2 M2 C2, ch_e4 (h + 1) (upd F h (nI (q / 36))) (upd T h (nI (q % 36))) (upd M h (b (q / 36))) (upd C h (b (q % 36))) F2 T2 M2 C2 → ∀ x, ch_mt (ch_pp b s q) (1 - s) = x → wY_canMate_63 post (wY_canMate_2 post (d + 1)) (nI q) (ch_bI x) yg (nI (1 - s)) (nI (h + 1)) yl ya yb (ch_pp b s q) F2 T2 M2 C2 yp yt yz := by
        intro F2 T2 M2 C2 e2 x ex
        rw [ex] at H
        have hF : F2 h = nI (q / 36) := by rw [e2.1 h (by omega), pk_us]
        have hT : T2 h = nI (q % 36) := by rw [e2.2.1 h (by omega), pk_us]
        have hM : M2 h = b (q / 36) := by rw [e2.2.2.1 h (by omega), pk_us]
        have hC : C2 h = b (q % 36) := by rw [e2.2.2.2 h (by omega), pk_us]
        have e3 : ch_e4 h yF yT yM yC F2 T2 M2 C2 := ch_e4_t e (ch_e4_t (ch_e4_u (Nat.le_refl h)) (ch_e4_m e2 (by omega)))
        refine cy_undoMove (s := s) (h := h) (ch_mu hs) p1 p2 (by omega) hF hT ?_
        rw [hM, hC, ch_back_pp hq2 hg]
        cases x with
        | false => exact br_t rfl (nm_r (nI_1 q) (ih (q + 1) F2 T2 M2 C2 (by omega) fun F' T' M' C' e' => H F' T' M' C' (ch_e4_t e3 e')))
        | true => exact br_f (by decide) (H F2 T2 M2 C2 e3)
      refine br_f (by decide) ⟨by decide, by decide, cy_doMove hs hO p1 p2 (by omega) p3 (cy_inCheck (by omega) (ch_Ok_pl hO p1) ?_)⟩
      cases hk : ch_ck (ch_pp b s q) (1 - s) with
      | false =>
        have hk' : ch_ck (ch_pl b s (q / 36) (q % 36)) (1 - s) = false := hk
        rw [hk']
        exact br_t rfl (goOn _ _ _ _ ch_e4_r false (by unfold ch_mt; rw [hk]; rfl))
      | true =>
        have hk' : ch_ck (ch_pl b s (q / 36) (q % 36)) (1 - s) = true := hk
        rw [hk']
        refine br_f (by decide) (cy_nextLegal (q := 0) (by omega) (ch_Ok_pl hO p1) (by omega) (by omega) fun F2 T2 M2 C2 e2 => ?_)
        have eL : ch_Rl (ch_lg (ch_pl b s (q / 36) (q % 36)) (1 - s)) 0 = ch_L (ch_pp b s q) (1 - s) := rfl
        rw [eL]
        cases hl : ch_L (ch_pp b s q) (1 - s) with
        | nil => exact br_t (by decide) (goOn F2 T2 M2 C2 e2 true (by unfold ch_mt; rw [hk, hl]; rfl))
        | cons p r =>
          have hp := (ch_L_mem (b := ch_pp b s q) (s := 1 - s) (p := p) (by rw [hl]; exact List.mem_cons_self)).1
          exact br_f (fun z => absurd ((nI_eq (a := p) (b := 1296) (by omega) (by decide)).mp z) (by omega)) (goOn F2 T2 M2 C2 e2 false (by unfold ch_mt; rw [hk, hl]; rfl))
theorem cy_canMate {post : Int32 → SY → Prop} {s h : Nat} (hs : s < 2) (hO : ch_Ok b) (hh : h < 69) (H : ∀ F T M C, ch_e4 h yF yT yM yC F T M C → post (ch_bI (ch_cm b s)) (yg, nI s, nI h, yl, ya, yb, b, F, T, M, C, yp, yt, yz)) : wpY_canMate post (yg, nI s, nI h, yl, ya, yb, b, yF, yT, yM, yC, yp, yt, yz) :=
  ⟨1297, cy_cm_l hs hO hh 1296 0 yF yT yM yC (by omega) H⟩
theorem cy_ls_l {post : Int32 → SY → Prop} {s h : Nat} (hs : s < 2) (hO : ch_Ok b) (hh : h < 68) : ∀ d q yF yT yM yC, q + d = 1296 →
    (∀ F T M C, ch_e4 h yF yT yM yC F T M C → post (ch_bI ((ch_Rl (ch_lg b s) q).all fun p => ch_cm (ch_pp b s p) (1 - s))) (yg, nI s, nI h, yl, ya, yb, b, F, T, M, C, yp, yt, yz)) → wY_isLost_22 post (d + 1) (nI q) yg (nI s) (nI h) yl ya yb b yF yT yM yC yp yt yz := by
  intro d
  induction d with
  | zero =>
    intro q yF yT yM yC hq H
    have e : q = 1296 := by omega
    subst e
    have H0 := H yF yT yM yC ch_e4_r
    rw [ch_Re (Nat.le_refl 1296)] at H0
    exact br_t (nI_le (Nat.le_refl 1296) (by decide)) H0
  | succ d ih =>
    intro q yF yT yM yC hq H
    have hq2 : q < 1296 := by omega
    refine br_f (nI_ge (b := 1296) hq2 (by decide)) ⟨by decide, by decide, ?_⟩
    rw [ch_r36 hq2, ch_d36 hq2]
    refine cy_isLegal hs hO (by omega) (by omega) (by omega) fun F T M C e => ?_
    cases hg : ch_lp b s (q / 36) (q % 36) with
    | false =>
      refine br_t rfl (nm_r (nI_1 q) (ih (q + 1) F T M C (by omega) fun F' T' M' C' e' => ?_))
      have H0 := H F' T' M' C' (ch_e4_t e e')
      rw [ch_Rf hq2 hg] at H0
      exact H0
    | true =>
      obtain ⟨p1, p2, p3⟩ := ch_lg_in hq2 hg
      have hO2 : ch_Ok (ch_pp b s q) := ch_Ok_pl hO p1
      rw [ch_Rt hq2 hg] at H
      simp only [List.all_cons] at H
      refine br_f (by decide) ⟨by decide, by decide, cy_doMove hs hO p1 p2 (by omega) p3 (cy_canMate (by omega) (ch_Ok_pl hO p1) (by omega) fun F2 T2 M2 C2 e2 => ?_)⟩
      have hF : F2 h = nI (q / 36) := by rw [e2.1 h (by omega), pk_us]
      have hT : T2 h = nI (q % 36) := by rw [e2.2.1 h (by omega), pk_us]
      have hM : M2 h = b (q / 36) := by rw [e2.2.2.1 h (by omega), pk_us]
      have hC : C2 h = b (q % 36) := by rw [e2.2.2.2 h (by omega), pk_us]
      have e3 : ch_e4 h yF yT yM yC F2 T2 M2 C2 := ch_e4_t e (ch_e4_t (ch_e4_u (Nat.le_refl h)) (ch_e4_m e2 (by omega)))
      refine cy_undoMove (s := s) (h := h) (ch_mu hs) p1 p2 (by omega) hF hT ?_
      have hb := ch_back_pp hq2 hg
      unfold ch_pp at hb
      rw [hM, hC, hb]
      have ec : ch_cm (ch_pl b s (q / 36) (q % 36)) (1 - s) = ch_cm (ch_pp b s q) (1 - s) := rfl
      rw [ec]
      cases hk : ch_cm (ch_pp b s q) (1 - s) with
      | false => rw [hk] at H; exact br_t rfl (H F2 T2 M2 C2 e3)
      | true =>
        rw [hk] at H
        exact br_f (by decide) (nm_r (nI_1 q) (ih (q + 1) F2 T2 M2 C2 (by omega) fun F' T' M' C' e' => H F' T' M' C' (ch_e4_t e3 e')))
theorem cy_isLost {post : Int32 → SY → Prop} {s h : Nat} (hs : s < 2) (hO : ch_Ok b) (hh : h < 68) (H : ∀ F T M C, ch_e4 h yF yT yM yC F T M C → post (ch_bI (ch_ls b s)) (yg, nI s, nI h, yl, ya, yb, b, F, T, M, C, yp, yt, yz)) : wpY_isLost post (yg, nI s, nI h, yl, ya, yb, b, yF, yT, yM, yC, yp, yt, yz) := by
  unfold wpY_isLost
  dsimp only
  refine cy_nextLegal (q := 0) hs hO (by omega) (by omega) fun F T M C e => ?_
  have eL : ch_Rl (ch_lg b s) 0 = ch_L b s := rfl
  rw [eL]
  cases hl : ch_L b s with
  | nil =>
    refine br_t (by decide) (cy_inCheck hs hO ⟨ch_narB _, ?_⟩)
    have H0 := H F T M C e
    unfold ch_ls at H0
    rw [hl] at H0
    exact H0
  | cons p r =>
    have hp := (ch_L_mem (b := b) (s := s) (p := p) (by rw [hl]; exact List.mem_cons_self)).1
    refine br_f (fun z => absurd ((nI_eq (a := p) (b := 1296) (by omega) (by decide)).mp z) (by omega)) ⟨1297, cy_ls_l hs hO hh 1296 0 F T M C (by omega) fun F' T' M' C' e' => ?_⟩
    have H0 := H F' T' M' C' (ch_e4_t e e')
    unfold ch_ls at H0
    rw [eL]
    have en : (ch_L b s).isEmpty = false := by rw [hl]; rfl
    rw [en] at H0
    exact H0
theorem cy_m2_l {post : Int32 → SY → Prop} {s h : Nat} (hs : s < 2) (hO : ch_Ok b) (hh : h ≤ 60) : ∀ d q fl yF yT yM yC, q + d = 1296 →
    (∀ F T M C, ch_e4 h yF yT yM yC F T M C → post (ch_bI (fl || (ch_Rl (ch_lg b s) q).any fun p => ch_ls (ch_pp b s p) (1 - s))) (yg, nI s, nI h, yl, ya, yb, b, F, T, M, C, yp, yt, yz)) → wY_mate_29 post 2 (d + 1) (ch_bI fl) (nI q) yg (nI s) (nI h) yl ya yb b yF yT yM yC yp yt yz := by
  intro d
  induction d with
  | zero =>
    intro q fl yF yT yM yC hq H
    have e : q = 1296 := by omega
    subst e
    have H0 := H yF yT yM yC ch_e4_r
    rw [ch_Re (Nat.le_refl 1296)] at H0
    simp only [List.any_nil, Bool.or_false] at H0
    exact br_t (nI_le (Nat.le_refl 1296) (by decide)) (ch_rX (post := fun r => post r (yg, nI s, nI h, yl, ya, yb, b, yF, yT, yM, yC, yp, yt, yz)) H0)
  | succ d ih =>
    intro q fl yF yT yM yC hq H
    have hq2 : q < 1296 := by omega
    refine br_f (nI_ge (b := 1296) hq2 (by decide)) (br_t rfl ?_)
    cases fl with
    | true => exact br_f (by decide) (br_f (by decide) (H yF yT yM yC ch_e4_r))
    | false =>
      simp only [Bool.false_or] at H
      refine br_t rfl ⟨by decide, by decide, ?_⟩
      rw [ch_r36 hq2, ch_d36 hq2]
      refine cy_isLegal hs hO (by omega) (by omega) (by omega) fun F T M C e => ?_
      cases hg : ch_lp b s (q / 36) (q % 36) with
      | false =>
        refine br_t rfl (nm_r (nI_1 q) (ih (q + 1) false F T M C (by omega) fun F' T' M' C' e' => ?_))
        have H0 := H F' T' M' C' (ch_e4_t e e')
        rw [ch_Rf hq2 hg] at H0
        exact H0
      | true =>
        obtain ⟨p1, p2, p3⟩ := ch_lg_in hq2 hg
        rw [ch_Rt hq2 hg] at H
        simp only [List.any_cons] at H
        refine br_f (by decide) ⟨by decide, by decide, cy_doMove hs hO p1 p2 (by omega) p3 (cy_isLost (by omega) (ch_Ok_pl hO p1) (by omega) fun F2 T2 M2 C2 e2 => ?_)⟩
        have hF : F2 h = nI (q / 36) := by rw [e2.1 h (by omega), pk_us]
        have hT : T2 h = nI (q % 36) := by rw [e2.2.1 h (by omega), pk_us]
        have hM : M2 h = b (q / 36) := by rw [e2.2.2.1 h (by omega), pk_us]
        have hC : C2 h = b (q % 36) := by rw [e2.2.2.2 h (by omega), pk_us]
        have e3 : ch_e4 h yF yT yM yC F2 T2 M2 C2 := ch_e4_t e (ch_e4_t (ch_e4_u (Nat.le_refl h)) (ch_e4_m e2 (by omega)))
        refine cy_undoMove (s := s) (h := h) (ch_mu hs) p1 p2 (by omega) hF hT ?_
        have hb := ch_back_pp hq2 hg
        unfold ch_pp at hb
        rw [hM, hC, hb]
        refine nm_r (nI_1 q) (ih (q + 1) _ F2 T2 M2 C2 (by omega) fun F' T' M' C' e' => H F' T' M' C' (ch_e4_t e3 e'))
theorem cy_mate2 {post : Int32 → SY → Prop} {s h : Nat} (hs : s < 2) (hO : ch_Ok b) (hh : h ≤ 60) (H : ∀ F T M C, ch_e4 h yF yT yM yC F T M C → post (ch_bI (ch_m2 b s)) (yg, nI s, nI h, yl, ya, yb, b, F, T, M, C, yp, yt, yz)) : wY_mate_22 post 2 yg (nI s) (nI h) yl ya yb b yF yT yM yC yp yt yz := by
  unfold wY_mate_22
  refine cy_canMate hs hO (by omega) fun F T M C e => ⟨1297, cy_m2_l hs hO hh 1296 0 (ch_cm b s) F T M C (by omega) fun F' T' M' C' e' => ?_⟩
  have H0 := H F' T' M' C' (ch_e4_t e e')
  have eq : (ch_cm b s || (ch_Rl (ch_lg b s) 0).any fun p => ch_ls (ch_pp b s p) (1 - s)) = ch_m2 b s := by
    show (ch_cm b s || ch_m2 b s) = ch_m2 b s
    cases hc : ch_cm b s with
    | false => rfl
    | true => rw [ch_cm_m2 hc]; rfl
  rw [eq]
  exact H0
theorem cy_mate1 {post : Int32 → SY → Prop} {s h : Nat} (hs : s < 2) (hO : ch_Ok b) (hh : h ≤ 60) (H : ∀ F T M C, ch_e4 h yF yT yM yC F T M C → post (ch_bI (ch_cm b s)) (yg, nI s, nI h, yl, ya, yb, b, F, T, M, C, yp, yt, yz)) : wY_mate_22 post 1 yg (nI s) (nI h) yl ya yb b yF yT yM yC yp yt yz := by
  unfold wY_mate_22
  refine cy_canMate hs hO (by omega) fun F T M C e => ⟨1, ?_⟩
  exact br_f (by decide) (br_f (by decide) (ch_rX (post := fun r => post r (yg, nI s, nI h, yl, ya, yb, b, F, T, M, C, yp, yt, yz)) (H F T M C e)))
end
end
section
/-! the component: moveAt, mobile, looking ahead -/
/-- the latest number tried at a level, and where the moves that are left begin -/
def ch_tr (b : Nat → Int32) (s : Nat) (x : Int32) (q : Nat) : Prop := (x = -1 ∧ q = 0) ∨ ∃ p, p < 1296 ∧ x = nI (ch_nm p) ∧ q = p + 1 ∧ ch_lg b s p = true
theorem ch_tr_0 {b : Nat → Int32} {s : Nat} : ch_tr b s (-1) 0 := Or.inl ⟨rfl, rfl⟩
theorem ch_tr_p {b : Nat → Int32} {s p : Nat} (hp : p < 1296) (hg : ch_lg b s p = true) : ch_tr b s (nI (ch_nm p)) (p + 1) := Or.inr ⟨p, hp, rfl, rfl, hg⟩
theorem ch_tr_end {b : Nat → Int32} {s q : Nat} {x : Int32} (h : ch_tr b s x q) (e : ch_Rl (ch_lg b s) q = []) : x = -1 ↔ ch_L b s = [] := by
  rcases h with ⟨h1, h2⟩ | ⟨p, h1, h2, h3, h4⟩
  · subst h2; exact ⟨fun _ => e, fun _ => h1⟩
  · constructor
    · intro z; rw [h2] at z; exact absurd z (ch_nm_ne h1)
    · intro z
      have := ch_Rnil _ 0 rfl z p (by omega) h1
      rw [h4] at this
      cases this
theorem ch_ct_const {p : Nat → Bool} {a c : Nat} (h : a ≤ c) (hp : ∀ t, a ≤ t → t < c → p t = false) : ch_ct p c = ch_ct p a := by
  obtain ⟨d, rfl⟩ : ∃ d, c = a + d := ⟨c - a, by omega⟩
  induction d with
  | zero => rfl
  | succ d ih =>
    rw [← Nat.add_assoc, ch_ct_f (hp (a + d) (by omega) (by omega))]
    exact ih (by omega) fun t h1 h2 => hp t h1 (by omega)
section
variable {xg xm xh xr : Int32} {b xp xq xt xv xk xz : Nat → Int32}
theorem cx_nl_t {post : Int32 → SX → Prop} {s q : Nat} {x : Int32} (hs : s < 2) (hO : ch_Ok b) (hK : ch_K1 b) (h : ch_tr b s x q) (H : post (ch_hX (ch_Rl (ch_lg b s) q)) (xg, nI s, xh, xr, b, xp, xq, xt, xv, xk, xz)) : wpX_nextLegal post (xg, nI s, xh, xr, b, xp, xq, xt, xv, xk, xz) x := by
  rcases h with ⟨h1, h2⟩ | ⟨p, h1, h2, h3, -⟩
  · subst h1; subst h2; exact cx_nl_0 hs hO hK H
  · subst h2; subst h3; exact cx_nl_p hs hO hK h1 H
theorem cx_ma_l {post : Int32 → SX → Prop} {s j : Nat} (hs : s < 2) (hO : ch_Ok b) (hK : ch_K1 b) (hj : j < 2 ^ 31) : ∀ (l : List Nat) (i q n : Nat), ch_Rl (ch_lg b s) q = l → l.length < n → i ≤ j → post (ch_nt l (j - i)) (xg, nI s, xh, xr, b, xp, xq, xt, xv, xk, xz) → wX_moveAt_24 post (nI j) n (ch_hX l) (nI i) xg (nI s) xh xr b xp xq xt xv xk xz := by
  intro l
  induction l with
  | nil =>
    intro i q n hq hn hi H
    obtain ⟨m, rfl⟩ : ∃ m, n = m + 1 := ⟨n - 1, by omega⟩
    exact br_c (fun _ => br_t rfl H) (fun _ => br_t rfl (br_t rfl H))
  | cons p r ih =>
    intro i q n hq hn hi H
    obtain ⟨m, rfl⟩ : ∃ m, n = m + 1 := ⟨n - 1, by omega⟩
    obtain ⟨-, h2, -, h4, -⟩ := ch_Rcons _ _ rfl p r hq
    simp only [List.length_cons] at hn
    by_cases e : i = j
    · subst e
      rw [Nat.sub_self] at H
      exact br_t (nI_le (Nat.le_refl i) hj) (br_f (ch_nm_ne h2) H)
    · refine br_f (nI_ge (by omega) hj) (br_f (ch_nm_ne h2) (cx_nl_p hs hO hK h2 ?_))
      rw [← h4]
      refine nm_r (nI_1 i) (ih (i + 1) (p + 1) m h4.symm (by omega) (by omega) ?_)
      rw [show j - i = (j - (i + 1)) + 1 by omega] at H
      exact H
theorem cx_mo_l {post : Int32 → SX → Prop} {s f : Nat} (hs : s < 2) (hO : ch_Ok b) (hK : ch_K1 b) (hf : f < 36) (H : post (nI (ch_ct (ch_lp b s f) 36)) (xg, nI s, xh, xr, b, xp, xq, xt, xv, xk, xz)) : ∀ d i q, i + d = 36 → 36 * f ≤ q → q ≤ 36 * f + 36 → i = ch_ct (ch_lp b s f) (q - 36 * f) → wX_mobile_34 post (nI f) (d + 1) (nI i) (ch_hX (ch_Rl (ch_lg b s) q)) (nI i) xg (nI s) xh xr b xp xq xt xv xk xz := by
  have key : ∀ t, t < 36 → ch_lg b s (36 * f + t) = ch_lp b s f t := by
    intro t ht
    unfold ch_lg
    rw [show (36 * f + t) / 36 = f by omega, show (36 * f + t) % 36 = t by omega]
  intro d
  induction d with
  | zero =>
    intro i q hi h1 h2 h3
    have h4 := ch_ct_le (ch_lp b s f) (q - 36 * f)
    have e : q - 36 * f = 36 := by omega
    rw [e] at h3
    rw [← h3] at H
    exact br_t (nI_le (show 36 ≤ i by omega) (by omega)) H
  | succ d ih =>
    intro i q hi h1 h2 h3
    refine br_f (nI_ge (b := 36) (by omega) (by decide)) ?_
    have stop : (∀ t, q - 36 * f ≤ t → t < 36 → ch_lp b s f t = false) → post (nI i) (xg, nI s, xh, xr, b, xp, xq, xt, xv, xk, xz) := by
      intro h
      rw [ch_ct_const (by omega) h, ← h3] at H
      exact H
    cases hr : ch_Rl (ch_lg b s) q with
    | nil =>
      refine br_f ?_ (stop fun t a c => ?_)
      · show ¬ (-1 : Int32) >>> ((6 : Int32) &&& 31) = nI f
        intro z
        have z2 : ((-1 : Int32) >>> ((6 : Int32) &&& 31)).toInt = (nI f).toInt := congrArg Int32.toInt z
        rw [nI_toInt (by omega), show ((-1 : Int32) >>> ((6 : Int32) &&& 31)).toInt = -1 by decide] at z2
        omega
      · rw [← key t c]
        exact ch_Rnil _ q rfl hr _ (by omega) (by omega)
    | cons p r =>
      obtain ⟨g1, g2, g3, g4, g5⟩ := ch_Rcons _ _ rfl p r hr
      by_cases e : p / 36 = f
      · refine br_t ((ch_nmS g2).trans (by rw [e])) (nm_r (nI_1 i) (cx_nl_p hs hO hK g2 (nm_r (nI_1 i) (ih (i + 1) (p + 1) (by omega) (by omega) (by omega) ?_))))
        have c1 : ch_ct (ch_lp b s f) (p - 36 * f) = ch_ct (ch_lp b s f) (q - 36 * f) := ch_ct_const (by omega) fun t a c => by
          rw [← key t (by omega)]; exact g5 _ (by omega) (by omega)
        have c2 : ch_lp b s f (p - 36 * f) = true := by
          rw [← key _ (by omega), show 36 * f + (p - 36 * f) = p by omega]; exact g3
        rw [show p + 1 - 36 * f = (p - 36 * f) + 1 by omega, ch_ct_t c2, c1]
        omega
      · refine br_f (fun z => e ((nI_eq (by omega) (by omega)).mp ((ch_nmS g2).symm.trans z))) (stop fun t a c => ?_)
        rw [← key t c]
        exact g5 _ (by omega) (by omega)
/-- the value of a level -/
theorem cx_vol_0 {post : Int32 → Prop} {s D : Nat} {x0 : Int32} (hs : s < 2) (hO : ch_Ok b) (H : post (ch_bl b s)) : wpX_valueOfLevel post (xg, nI s, xh, xr, b, xp, xq, xt, xv, xk, xz) x0 (nI D - nI D) := by
  rw [pk_sub (Nat.le_refl D), Nat.sub_self]
  exact br_t nI_0 (cx_balance hs hO H)
theorem cx_vol_s {post : Int32 → Prop} {s D L : Nat} (hs : s < 2) (hO : ch_Ok b) (hK : ch_K1 b) (hL : L < D) (hD : D ≤ 3) (H : post (if xt L = -1 then ch_no (D - L) b s else xz L)) : wpX_valueOfLevel post (xg, nI s, xh, xr, b, xp, xq, xt, xv, xk, xz) (nI L) (nI D - nI L) := by
  have cL : (nI L).toNatClampNeg = L := nI_clamp (by omega)
  have vL : vp_in (nI L) 4 := vp_in_nI (by omega) (by decide)
  rw [pk_sub (by omega)]
  refine br_f (nI_ne0 (by omega) (by omega)) ⟨vL, ?_⟩
  rw [cL]
  by_cases z : xt L = -1
  · rw [if_pos z] at H
    refine br_t z (cx_inCheck hs hO hK ?_)
    unfold ch_no at H
    cases hc : ch_ck b s with
    | true => rw [hc, if_pos rfl] at H; exact br_f (by decide) H
    | false => rw [hc, if_neg (by decide)] at H; exact br_t rfl H
  · rw [if_neg z] at H
    exact br_f z ⟨vL, H⟩
/-- back to the level below with the value x -/
theorem cx_up {post : Int32 → SX → Prop} {J : Int32 → Int32 → Int32 → Int32 → Int32 → Int32 → (Nat → Int32) → (Nat → Int32) → (Nat → Int32) → (Nat → Int32) → (Nat → Int32) → (Nat → Int32) → (Nat → Int32) → Prop} {D L r s p : Nat} {x : Int32} (hv : ∀ post' : Int32 → Prop, post' x → wpX_valueOfLevel post' (xg, xm, xh, xr, b, xp, xq, xt, xv, xk, xz) (nI (L + 1)) (nI D - nI (L + 1))) (hL : L < 4) (hm : (1 : Int32) - xm = nI s) (hp : p < 1296) (et : xt L = nI (ch_nm p))
    (H : J (nI L) (nI (r + 1)) xg (nI s) xh (if L = 0 then (if xz L < -x then nI (ch_nm p) else xr) else xr) (upd (upd b (p / 36) (xv L)) (p % 36) (xk L)) xp xq xt xv xk (upd xz L (if xz L < -x then -x else xz L))) : wX_lookAhead_39 post J (nI D) (nI (L + 1)) (nI r) (-1) xg xm xh xr b xp xq xt xv xk xz := by
  have cL : (nI L).toNatClampNeg = L := nI_clamp (by omega)
  have vL : vp_in (nI L) 4 := vp_in_nI hL (by decide)
  refine br_t rfl (hv _ (br_f (nI_ne0 (by omega) (by omega)) (nm_r (e' := nI L) (pk_m1 L) (cx_takeBack hm hp hL et ⟨vL, ?_⟩))))
  rw [cL]
  by_cases g : xz L < -x
  · refine br_f (Int32.not_le.mpr g) ⟨vL, nm_r (e' := upd xz L (-x)) rfl ?_⟩
    rw [if_pos g, if_pos g] at H
    by_cases z : L = 0
    · rw [if_pos z] at H
      refine br_t (by rw [z]; rfl) (nm_r (e' := nI (ch_nm p)) ?_ (nm_r (nI_1 r) H))
      rw [← et, z]
    · rw [if_neg z] at H
      exact br_f (nI_ne0 (by omega) (by omega)) (nm_r (nI_1 r) H)
  · rw [if_neg g, if_neg g, ch_upd_self] at H
    have H2 : J (nI L) (nI (r + 1)) xg (nI s) xh xr (upd (upd b (p / 36) (xv L)) (p % 36) (xk L)) xp xq xt xv xk xz := by
      by_cases z : L = 0
      · rw [if_pos z] at H; exact H
      · rw [if_neg z] at H; exact H
    exact br_t (Int32.not_lt.mp g) (nm_r (nI_1 r) H2)
end
section
variable {xg xh xr : Int32} {b xp xq xt xv xk xz : Nat → Int32}
theorem cx_openLevel {post : SX → Prop} {xm : Int32} {L : Nat} (hL : L < 4) (H : post (xg, xm, xh, xr, b, xp, xq, upd xt L (-1), xv, xk, upd xz L (-1000000))) : wpX_openLevel post (xg, xm, xh, xr, b, xp, xq, xt, xv, xk, xz) (nI L) := by
  have cL : (nI L).toNatClampNeg = L := nI_clamp (by omega)
  have vL : vp_in (nI L) 4 := vp_in_nI hL (by decide)
  exact ⟨vL, nm_r (e' := upd xt L (-1)) (by rw [cL]) ⟨vL, nm_r (e' := upd xz L (-1000000)) (by rw [cL]) H⟩⟩
theorem cx_down {post : Int32 → SX → Prop} {D m L r s q p : Nat} {rest : List Nat} (hs : s < 2) (hO : ch_Ok b) (hK : ch_K1 b) (hD : D ≤ 3) (hL : L < D) (hr : r < 100000000) (ht : ch_tr b s (xt L) q) (er : ch_Rl (ch_lg b s) q = p :: rest)
    (H : wX_lookAhead_14 post (nI D) m (nI (L + 1)) (nI (r + 1)) xg (nI (1 - s)) xh xr (ch_pp b s p) xp xq (upd (upd xt L (nI (ch_nm p))) (L + 1) (-1)) (upd xv L (b (p / 36))) (upd xk L (b (p % 36))) (upd xz (L + 1) (-1000000))) :
    wX_lookAhead_14 post (nI D) (m + 1) (nI L) (nI r) xg (nI s) xh xr b xp xq xt xv xk xz := by
  have cL : (nI L).toNatClampNeg = L := nI_clamp (by omega)
  obtain ⟨-, hp, hg, -, -⟩ := ch_Rcons _ _ rfl p rest er
  refine br_f (nI_ge (b := 100000000) hr (by decide)) (br_f (nI_ge (by omega) (by omega)) ⟨vp_in_nI (by omega) (by decide), ?_⟩)
  rw [cL]
  refine cx_nl_t hs hO hK ht ?_
  rw [er]
  exact br_f (ch_nm_ne hp) (cx_play hs hO hp (by omega) (nm_r (nI_1 L) (cx_openLevel (by omega) (nm_r (nI_1 r) H))))
theorem cx_none {post : Int32 → SX → Prop} {D m L r s q : Nat} (hs : s < 2) (hO : ch_Ok b) (hK : ch_K1 b) (hD : D ≤ 3) (hL : L < D) (hr : r < 100000000) (ht : ch_tr b s (xt L) q) (er : ch_Rl (ch_lg b s) q = [])
    (H : wX_lookAhead_39 post (wX_lookAhead_14 post (nI D) m) (nI D) (nI L) (nI r) (-1) xg (nI s) xh xr b xp xq xt xv xk xz) :
    wX_lookAhead_14 post (nI D) (m + 1) (nI L) (nI r) xg (nI s) xh xr b xp xq xt xv xk xz := by
  have cL : (nI L).toNatClampNeg = L := nI_clamp (by omega)
  refine br_f (nI_ge (b := 100000000) hr (by decide)) (br_f (nI_ge (by omega) (by omega)) ⟨vp_in_nI (by omega) (by decide), ?_⟩)
  rw [cL]
  refine cx_nl_t hs hO hK ht ?_
  rw [er]
  exact H
theorem cx_leaf {post : Int32 → SX → Prop} {xm : Int32} {D m r : Nat} (hD : D ≤ 3) (hr : r < 100000000)
    (H : wX_lookAhead_39 post (wX_lookAhead_14 post (nI D) m) (nI D) (nI D) (nI r) (-1) xg xm xh xr b xp xq xt xv xk xz) :
    wX_lookAhead_14 post (nI D) (m + 1) (nI D) (nI r) xg xm xh xr b xp xq xt xv xk xz :=
  br_f (nI_ge (b := 100000000) hr (by decide)) (br_t (nI_le (Nat.le_refl D) (by omega)) H)
end
def ch_XC (post : Int32 → SX → Prop) (D d : Nat) (xg xh : Int32) (xp xq : Nat → Int32) : Prop :=
  ∀ (L s p r n : Nat) (b xt xv xk xz : Nat → Int32) (xr : Int32), D = L + 1 + d → s < 2 → ch_Ok b → ch_K1 b → p < 1296 → ch_lg b s p = true → xt L = nI (ch_nm p) → xv L = b (p / 36) → xk L = b (p % 36) → xt (L + 1) = -1 → xz (L + 1) = -1000000 →
    r + ch_T d (ch_pp b s p) (1 - s) < 100000000 → n + r = 100000001 →
    (∀ n' xt' xv' xk' xz', n' + (r + ch_T d (ch_pp b s p) (1 - s)) = 100000001 → ch_e1 (L + 1) xt xt' → ch_e1 (L + 1) xv xv' → ch_e1 (L + 1) xk xk' → ch_e1 L xz xz' → xz' L = (if xz L < -ch_w d b s p then -ch_w d b s p else xz L) →
      wX_lookAhead_14 post (nI D) n' (nI L) (nI (r + ch_T d (ch_pp b s p) (1 - s))) xg (nI s) xh (if L = 0 then (if xz L < -ch_w d b s p then nI (ch_nm p) else xr) else xr) b xp xq xt' xv' xk' xz') →
    wX_lookAhead_14 post (nI D) n (nI (L + 1)) (nI r) xg (nI (1 - s)) xh xr (ch_pp b s p) xp xq xt xv xk xz
theorem ch_pp_Ok {b : Nat → Int32} {s p : Nat} (hp : p < 1296) (hO : ch_Ok b) : ch_Ok (ch_pp b s p) := ch_Ok_pl hO (by omega)
theorem ch_pp_K1 {b : Nat → Int32} {s p : Nat} (hp : p < 1296) (hK : ch_K1 b) : ch_K1 (ch_pp b s p) := ch_K1_pl hK (by omega)
theorem cx_ch0 {post : Int32 → SX → Prop} {D : Nat} {xg xh : Int32} {xp xq : Nat → Int32} (hD : D ≤ 3) : ch_XC post D 0 xg xh xp xq := by
  intro L s p r n b xt xv xk xz xr eD hs hO hK hp hg et ev ek et1 ez1 hr hn K
  obtain ⟨m, rfl⟩ : ∃ m, n = m + 1 := ⟨n - 1, by omega⟩
  have eT0 : ch_T 0 (ch_pp b s p) (1 - s) = 1 := rfl
  rw [eT0] at hr K
  have eL : D = L + 1 := by omega
  subst eL
  refine cx_leaf hD (by omega) (cx_up (x := ch_w 0 b s p) (s := s) (p := p) (fun post' h => cx_vol_0 (by omega) (ch_pp_Ok hp hO) h) (by omega) (ch_mu hs) hp et ?_)
  rw [ev, ek, ch_back_pp hp hg]
  exact K m xt xv xk _ (by omega) ch_e1_r ch_e1_r ch_e1_r (ch_e1_u (Nat.le_refl L)) pk_us
theorem cx_row {post : Int32 → SX → Prop} {D d : Nat} {xg xh : Int32} {xp xq : Nat → Int32} (hD : D ≤ 3) (hC : ch_XC post D d xg xh xp xq) {L s : Nat} {b : Nat → Int32} (eD : D = L + 1 + d) (hs : s < 2) (hO : ch_Ok b) (hK : ch_K1 b) :
    ∀ (rest : List Nat) (q r n : Nat) (xt xv xk xz : Nat → Int32) (xr : Int32), ch_Rl (ch_lg b s) q = rest → ch_tr b s (xt L) q → r + ch_sm (fun p => 1 + ch_T d (ch_pp b s p) (1 - s)) rest < 100000000 → n + r = 100000001 →
    (∀ n' q' xt' xv' xk' xz', n' + (r + ch_sm (fun p => 1 + ch_T d (ch_pp b s p) (1 - s)) rest) = 100000001 → ch_tr b s (xt' L) q' → ch_Rl (ch_lg b s) q' = [] → ch_e1 L xt xt' → ch_e1 L xv xv' → ch_e1 L xk xk' → ch_e1 L xz xz' → xz' L = ch_mx (ch_w d b s) (xz L) rest →
      wX_lookAhead_14 post (nI D) n' (nI L) (nI (r + ch_sm (fun p => 1 + ch_T d (ch_pp b s p) (1 - s)) rest)) xg (nI s) xh (if L = 0 then ch_bm (ch_w d b s) (xz L) xr rest else xr) b xp xq xt' xv' xk' xz') →
    wX_lookAhead_14 post (nI D) n (nI L) (nI r) xg (nI s) xh xr b xp xq xt xv xk xz := by
  intro rest
  induction rest with
  | nil =>
    intro q r n xt xv xk xz xr er ht hr hn K
    have K := K n q xt xv xk xz (by simp only [ch_sm]; omega) ht er ch_e1_r ch_e1_r ch_e1_r ch_e1_r rfl
    simp only [ch_sm, ch_bm, Nat.add_zero, ite_self] at K
    exact K
  | cons p rest ih =>
    intro q r n xt xv xk xz xr er ht hr hn K
    obtain ⟨-, hp, hg, e4, -⟩ := ch_Rcons _ _ rfl p rest er
    obtain ⟨m, rfl⟩ : ∃ m, n = m + 1 := ⟨n - 1, by omega⟩
    simp only [ch_sm] at hr K
    refine cx_down hs hO hK hD (by omega) (by omega) ht er ?_
    refine hC L s p (r + 1) m b _ _ _ _ xr eD hs hO hK hp hg ?_ pk_us pk_us pk_us pk_us (by omega) (by omega) ?_
    · rw [pk_un (by omega), pk_us]
    · intro n' xt' xv' xk' xz' hn' e1 e2 e3 e5 e6
      rw [pk_un (show L ≠ L + 1 by omega)] at e6
      refine ih (p + 1) _ n' xt' xv' xk' xz' _ e4.symm ?_ (by omega) hn' ?_
      · rw [e1 L (by omega), pk_un (by omega), pk_us]; exact ch_tr_p hp hg
      · intro n2 q2 xt2 xv2 xk2 xz2 hn2 ht2 er2 a1 a2 a3 a4 a5
        have ef : r + 1 + ch_T d (ch_pp b s p) (1 - s) + ch_sm (fun p => 1 + ch_T d (ch_pp b s p) (1 - s)) rest = r + (1 + ch_T d (ch_pp b s p) (1 - s) + ch_sm (fun p => 1 + ch_T d (ch_pp b s p) (1 - s)) rest) := by omega
        have K := K n2 q2 xt2 xv2 xk2 xz2 (by omega) ht2 er2 ?_ ?_ ?_ ?_ ?_
        · rw [ef]
          have eb : (if L = 0 then ch_bm (ch_w d b s) (xz L) xr (p :: rest) else xr) = (if L = 0 then ch_bm (ch_w d b s) (xz' L) (if L = 0 then (if upd xz (L + 1) (-1000000) L < -ch_w d b s p then nI (ch_nm p) else xr) else xr) rest else (if L = 0 then (if upd xz (L + 1) (-1000000) L < -ch_w d b s p then nI (ch_nm p) else xr) else xr)) := by
            by_cases z : L = 0
            · rw [if_pos z, if_pos z, if_pos z, e6, pk_un (show L ≠ L + 1 by omega)]
              rfl
            · rw [if_neg z, if_neg z, if_neg z]
          rw [← eb]
          exact K
        · exact ch_e1_t (ch_e1_t (ch_e1_u (Nat.le_refl L)) (ch_e1_u (by omega))) (ch_e1_t (ch_e1_m e1 (by omega)) a1)
        · exact ch_e1_t (ch_e1_u (Nat.le_refl L)) (ch_e1_t (ch_e1_m e2 (by omega)) a2)
        · exact ch_e1_t (ch_e1_u (Nat.le_refl L)) (ch_e1_t (ch_e1_m e3 (by omega)) a3)
        · exact ch_e1_t (ch_e1_t (ch_e1_u (by omega)) e5) a4
        · rw [a5, e6]; rfl
theorem ch_finX {d : Nat} (hd : d ≤ 2) (b : Nat → Int32) (s : Nat) {x : Int32} (hx : x = -1 ↔ ch_L b s = []) : (if x = -1 then ch_no (d + 1) b s else ch_mx (ch_w d b s) (-1000000) (ch_L b s)) = ch_v (d + 1) b s := by
  cases hl : ch_L b s with
  | nil => rw [if_pos (hx.mpr hl), ch_v_nil hl]
  | cons p r =>
    have hw : ∀ q, ch_in (ch_w d b s q) := fun q => ch_v_in d (by omega) _ _
    have e : ch_mx (ch_w d b s) (-1000000) (p :: r) = ch_mx (ch_w d b s) (-ch_w d b s p) r := by
      simp only [ch_mx]
      rw [if_pos (ch_in_gt (hw p)).2.1]
    rw [e, ch_v_cons hl, if_neg]
    intro z
    rw [hx.mp z] at hl
    cases hl
theorem cx_chs {post : Int32 → SX → Prop} {D d : Nat} {xg xh : Int32} {xp xq : Nat → Int32} (hD : D ≤ 3) (hC : ch_XC post D d xg xh xp xq) : ch_XC post D (d + 1) xg xh xp xq := by
  intro L s p r n b xt xv xk xz xr eD hs hO hK hp hg et ev ek et1 ez1 hr hn K
  have hO2 : ch_Ok (ch_pp b s p) := ch_pp_Ok hp hO
  have hK2 : ch_K1 (ch_pp b s p) := ch_pp_K1 hp hK
  have eT1 : ch_T (d + 1) (ch_pp b s p) (1 - s) = 1 + ch_sm (fun q => 1 + ch_T d (ch_pp (ch_pp b s p) (1 - s) q) (1 - (1 - s))) (ch_L (ch_pp b s p) (1 - s)) := rfl
  rw [eT1] at hr K
  refine cx_row (L := L + 1) hD hC (by omega) (by omega) hO2 hK2 (ch_L (ch_pp b s p) (1 - s)) 0 r n xt xv xk xz xr rfl (by rw [et1]; exact ch_tr_0) (by omega) hn ?_
  intro n' q' xt' xv' xk' xz' hn' ht' er' a1 a2 a3 a4 a5
  obtain ⟨m, rfl⟩ : ∃ m, n' = m + 1 := ⟨n' - 1, by omega⟩
  rw [if_neg (show ¬ L + 1 = 0 by omega)]
  have hv : (if xt' (L + 1) = -1 then ch_no (D - (L + 1)) (ch_pp b s p) (1 - s) else xz' (L + 1)) = ch_w (d + 1) b s p := by
    rw [a5, ez1, show D - (L + 1) = d + 1 by omega]
    exact ch_finX (by omega) _ _ (ch_tr_end ht' er')
  refine cx_none (by omega) hO2 hK2 hD (by omega) (by omega) ht' er' (cx_up (x := ch_w (d + 1) b s p) (s := s) (p := p) (fun post' h => cx_vol_s (by omega) hO2 hK2 (by omega) hD (by rw [hv]; exact h)) (by omega) (ch_mu hs) hp (by rw [a1 L (by omega)]; exact et) ?_)
  rw [a2 L (by omega), a3 L (by omega), ev, ek, ch_back_pp hp hg]
  have ezL : xz' L = xz L := a4 L (by omega)
  have K := K m xt' xv' xk' (upd xz' L (if xz' L < -ch_w (d + 1) b s p then -ch_w (d + 1) b s p else xz' L)) (by omega) a1 a2 a3 (ch_e1_t (ch_e1_m a4 (by omega)) (ch_e1_u (Nat.le_refl L))) (by rw [pk_us, ezL])
  rw [ezL] at K ⊢
  rw [show r + ch_sm (fun q => 1 + ch_T d (ch_pp (ch_pp b s p) (1 - s) q) (1 - (1 - s))) (ch_L (ch_pp b s p) (1 - s)) + 1 = r + (1 + ch_sm (fun q => 1 + ch_T d (ch_pp (ch_pp b s p) (1 - s) q) (1 - (1 - s))) (ch_L (ch_pp b s p) (1 - s))) by omega]
  exact K
theorem cx_ch {post : Int32 → SX → Prop} {D : Nat} {xg xh : Int32} {xp xq : Nat → Int32} (hD : D ≤ 3) : ∀ d, ch_XC post D d xg xh xp xq := by
  intro d
  induction d with
  | zero => exact cx_ch0 hD
  | succ d ih => exact cx_chs hD ih
end
section
/-! the component: looking ahead from the root, rows of moves -/
def ch_bR : Nat → (Nat → Int32) → Nat → Int32
  | 0, _, _ => -1
  | d + 1, b, s => ch_bm (ch_w d b s) (-1000000) (-1) (ch_L b s)
theorem ch_best {d : Nat} (hd : d ≤ 2) (b : Nat → Int32) (s : Nat) : (if ch_bR (d + 1) b s = -1 then -3 else ch_bR (d + 1) b s) = ch_be (d + 1) b s := by
  show (if ch_bm (ch_w d b s) (-1000000) (-1) (ch_L b s) = -1 then -3 else ch_bm (ch_w d b s) (-1000000) (-1) (ch_L b s)) = ch_bm (ch_w d b s) (-5000) (-3) (ch_L b s)
  cases hl : ch_L b s with
  | nil => exact if_pos rfl
  | cons p r =>
    have hw : ∀ q, ch_in (ch_w d b s q) := fun q => ch_v_in d (by omega) _ _
    have hlt : ∀ q, q ∈ p :: r → q < 1296 := fun q hq => (ch_L_mem (b := b) (s := s) (by rw [hl]; exact hq)).1
    have g := ch_in_gt (hw p)
    have e1 : ch_bm (ch_w d b s) (-1000000) (-1) (p :: r) = ch_bm (ch_w d b s) (-ch_w d b s p) (nI (ch_nm p)) r := by
      simp only [ch_bm]
      rw [if_pos g.2.1, if_pos g.2.1]
    have e2 : ch_bm (ch_w d b s) (-5000) (-3) (p :: r) = ch_bm (ch_w d b s) (-ch_w d b s p) (nI (ch_nm p)) r := by
      simp only [ch_bm]
      rw [if_pos g.1, if_pos g.1]
    rw [e1, e2, if_neg]
    exact ch_bm_ne r _ _ (fun q hq => hlt q (List.mem_cons_of_mem p hq)) (ch_nm_ne (hlt p List.mem_cons_self))
section
variable {xg xm xh xr : Int32} {b xp xq xt xv xk xz : Nat → Int32}
theorem cx_root {post : Int32 → SX → Prop} {J : Int32 → Int32 → Int32 → Int32 → Int32 → Int32 → (Nat → Int32) → (Nat → Int32) → (Nat → Int32) → (Nat → Int32) → (Nat → Int32) → (Nat → Int32) → (Nat → Int32) → Prop} {D r : Nat} {x : Int32} (hv : ∀ post' : Int32 → Prop, post' x → wpX_valueOfLevel post' (xg, xm, xh, xr, b, xp, xq, xt, xv, xk, xz) (nI 0) (nI D - nI 0)) (H : post x (xg, xm, xh, xr, b, xp, xq, xt, xv, xk, xz)) : wX_lookAhead_39 post J (nI D) (nI 0) (nI r) (-1) xg xm xh xr b xp xq xt xv xk xz :=
  br_t rfl (hv _ (br_t nI_0 H))
theorem cx_look0 {post : Int32 → SX → Prop} {s : Nat} (hs : s < 2) (hO : ch_Ok b) (H : post (ch_v 0 b s) (xg, nI s, xh, xr, b, xp, xq, xt, xv, xk, xz)) : ∀ n, n + 0 = 100000001 → wX_lookAhead_14 post (nI 0) n (nI 0) (nI 0) xg (nI s) xh xr b xp xq xt xv xk xz := by
  intro n hn
  obtain ⟨m, rfl⟩ : ∃ m, n = m + 1 := ⟨n - 1, by omega⟩
  exact cx_leaf (by omega) (by omega) (cx_root (x := ch_v 0 b s) (fun post' h => cx_vol_0 hs hO h) H)
theorem cx_looks {post : Int32 → SX → Prop} {s d : Nat} (hd : d ≤ 2) (hs : s < 2) (hO : ch_Ok b) (hK : ch_K1 b) (hz : ch_nz b ≤ 6) (e0 : xt 0 = -1) (e1 : xz 0 = -1000000)
    (H : ∀ xt' xv' xk' xz', post (ch_v (d + 1) b s) (xg, nI s, xh, ch_bR (d + 1) b s, b, xp, xq, xt', xv', xk', xz')) : ∀ n, n + 0 = 100000001 → wX_lookAhead_14 post (nI (d + 1)) n (nI 0) (nI 0) xg (nI s) xh (-1) b xp xq xt xv xk xz := by
  intro n hn
  have hT := ch_T_num (d := d + 1) (b := b) (s := s) (by omega) hs hz
  have eT1 : ch_T (d + 1) b s = 1 + ch_sm (fun q => 1 + ch_T d (ch_pp b s q) (1 - s)) (ch_L b s) := rfl
  rw [eT1] at hT
  refine cx_row (L := 0) (by omega) (cx_ch (by omega) d) (by omega) hs hO hK (ch_L b s) 0 0 n xt xv xk xz (-1) rfl (by rw [e0]; exact ch_tr_0) (by omega) hn ?_
  intro n' q' xt' xv' xk' xz' hn' ht' er' a1 a2 a3 a4 a5
  obtain ⟨m, rfl⟩ : ∃ m, n' = m + 1 := ⟨n' - 1, by omega⟩
  have hv : (if xt' 0 = -1 then ch_no (d + 1 - 0) b s else xz' 0) = ch_v (d + 1) b s := by
    rw [a5, e1]
    exact ch_finX (by omega) b s (ch_tr_end ht' er')
  rw [if_pos rfl, e1]
  exact cx_none hs hO hK (by omega) (by omega) (by omega) ht' er' (cx_root (x := ch_v (d + 1) b s) (fun post' h => cx_vol_s hs hO hK (by omega) (by omega) (by rw [hv]; exact h)) (H xt' xv' xk' xz'))
theorem cx_lookAhead {post : Int32 → SX → Prop} {s D : Nat} (hD : D ≤ 3) (hs : s < 2) (hO : ch_Ok b) (hK : ch_K1 b) (hz : ch_nz b ≤ 6)
    (H : ∀ xt' xv' xk' xz', post (ch_v D b s) (xg, nI s, xh, ch_bR D b s, b, xp, xq, xt', xv', xk', xz')) : wpX_lookAhead post (xg, nI s, xh, xr, b, xp, xq, xt, xv, xk, xz) (nI D) := by
  unfold wpX_lookAhead
  dsimp only
  refine cx_openLevel (L := 0) (by omega) ?_
  cases D with
  | zero => exact ⟨100000001, cx_look0 hs hO (H _ _ _ _) 100000001 rfl⟩
  | succ d => exact ⟨100000001, cx_looks (by omega) hs hO hK hz pk_us pk_us H 100000001 rfl⟩
end
/-- the steps of counting rows -/
def ch_cc : Nat → (Nat → Int32) → Nat → Nat → Nat
  | 0, _, _, _ => 1
  | e + 1, b, s, p => 2 + ch_sm (ch_cc e (ch_pp b s p) (1 - s)) (ch_L (ch_pp b s p) (1 - s))
theorem ch_cc_le : ∀ e b s, 1 + ch_sm (ch_cc e b s) (ch_L b s) ≤ ch_T (e + 1) b s := by
  intro e
  induction e with
  | zero =>
    intro b s
    refine Nat.add_le_add_left (ch_sm_mono _ fun p _ => ?_) 1
    exact Nat.le_add_right 1 _
  | succ e ih =>
    intro b s
    refine Nat.add_le_add_left (ch_sm_mono _ fun p _ => ?_) 1
    have h := ih (ch_pp b s p) (1 - s)
    show 2 + ch_sm (ch_cc e (ch_pp b s p) (1 - s)) (ch_L (ch_pp b s p) (1 - s)) ≤ 1 + ch_T (e + 1) (ch_pp b s p) (1 - s)
    omega
section
variable {xg xh xr : Int32} {b xp xq xt xv xk xz : Nat → Int32}
theorem cr_step {post : Int32 → SX → Prop} {D m L r s q : Nat} {rows : Int32} (hs : s < 2) (hO : ch_Ok b) (hK : ch_K1 b) (hL : L < 4) (hr : r < 100000000) (ht : ch_tr b s (xt L) q)
    (h0 : ch_Rl (ch_lg b s) q = [] → L = 0 → post rows (xg, nI s, xh, xr, b, xp, xq, xt, xv, xk, xz))
    (h1 : ¬ (ch_Rl (ch_lg b s) q = [] ∧ L = 0) → wX_countRows_45 post (wX_countRows_14 post (nI D) m) (nI D) rows (nI L) (nI r) (ch_hX (ch_Rl (ch_lg b s) q)) xg (nI s) xh xr b xp xq xt xv xk xz) :
    wX_countRows_14 post (nI D) (m + 1) rows (nI L) (nI r) xg (nI s) xh xr b xp xq xt xv xk xz := by
  have cL : (nI L).toNatClampNeg = L := nI_clamp (by omega)
  refine br_f (nI_ge (b := 100000000) hr (by decide)) ⟨vp_in_nI (by omega) (by decide), ?_⟩
  rw [cL]
  refine cx_nl_t hs hO hK ht ?_
  by_cases e : ch_Rl (ch_lg b s) q = []
  · refine br_t ((ch_hX_nil ch_Rl_lt).mpr e) ?_
    by_cases z : L = 0
    · exact br_t (by rw [z]; rfl) (h0 e z)
    · exact br_f (nI_ne0 (by omega) (by omega)) (h1 fun w => z w.2)
  · exact br_f (fun w => e ((ch_hX_nil ch_Rl_lt).mp w)) (h1 fun w => e w.1)
end
def ch_RC (post : Int32 → SX → Prop) (D e : Nat) (xg xh xr : Int32) (xp xq xz : Nat → Int32) : Prop :=
  ∀ (L s : Nat) (b : Nat → Int32), D = L + 1 + e → s < 2 → ch_Ok b → ch_K1 b → ∀ (rest : List Nat) (q r n : Nat) (xt xv xk : Nat → Int32) (rows : Int32), ch_Rl (ch_lg b s) q = rest → ch_tr b s (xt L) q → r + ch_sm (ch_cc e b s) rest < 100000000 → n + r = 100000001 →
    (∀ n' q' xt' xv' xk', n' + (r + ch_sm (ch_cc e b s) rest) = 100000001 → ch_tr b s (xt' L) q' → ch_Rl (ch_lg b s) q' = [] → ch_e1 L xt xt' → ch_e1 L xv xv' → ch_e1 L xk xk' →
      wX_countRows_14 post (nI D) n' (rows + nI (ch_sm (fun p => ch_cn e (ch_pp b s p) (1 - s)) rest)) (nI L) (nI (r + ch_sm (ch_cc e b s) rest)) xg (nI s) xh xr b xp xq xt' xv' xk' xz) →
    wX_countRows_14 post (nI D) n rows (nI L) (nI r) xg (nI s) xh xr b xp xq xt xv xk xz
theorem cr_row0 {post : Int32 → SX → Prop} {D : Nat} {xg xh xr : Int32} {xp xq xz : Nat → Int32} (hD : D ≤ 3) : ch_RC post D 0 xg xh xr xp xq xz := by
  intro L s b eD hs hO hK rest
  have cL : (nI L).toNatClampNeg = L := nI_clamp (by omega)
  induction rest with
  | nil =>
    intro q r n xt xv xk rows er ht hr hn K
    have K := K n q xt xv xk (by simp only [ch_sm]; omega) ht er ch_e1_r ch_e1_r ch_e1_r
    simp only [ch_sm, Nat.add_zero, nI_0, Int32.add_zero] at K
    exact K
  | cons p rest ih =>
    intro q r n xt xv xk rows er ht hr hn K
    obtain ⟨-, hp, hg, e4, -⟩ := ch_Rcons _ _ rfl p rest er
    obtain ⟨m, rfl⟩ : ∃ m, n = m + 1 := ⟨n - 1, by omega⟩
    simp only [ch_sm] at hr K
    have ec : ch_cc 0 b s p = 1 := rfl
    have en : ch_cn 0 (ch_pp b s p) (1 - s) = 1 := rfl
    rw [ec] at hr K
    rw [en] at K
    refine cr_step hs hO hK (by omega) (by omega) ht (fun z => by rw [er] at z; cases z) (fun _ => ?_)
    rw [er]
    refine br_f (ch_nm_ne hp) (br_t ?_ ⟨vp_in_nI (by omega) (by decide), nm_r (e' := upd xt L (nI (ch_nm p))) (by rw [cL]; rfl) (nm_e (nm_r (nI_1 r) ?_))⟩)
    · rw [show D = L + 1 by omega, nI_pred]
    · refine ih (p + 1) (r + 1) m _ xv xk (rows + 1) e4.symm (by rw [pk_us]; exact ch_tr_p hp hg) (by omega) (by omega) ?_
      intro n' q' xt' xv' xk' hn' ht' er' a1 a2 a3
      have K := K n' q' xt' xv' xk' (by omega) ht' er' (ch_e1_t (ch_e1_u (Nat.le_refl L)) a1) a2 a3
      rw [← nI_add, ← Int32.add_assoc] at K
      rw [show r + 1 + ch_sm (ch_cc 0 b s) rest = r + (1 + ch_sm (ch_cc 0 b s) rest) by omega]
      exact K
theorem cr_rows {post : Int32 → SX → Prop} {D e : Nat} {xg xh xr : Int32} {xp xq xz : Nat → Int32} (hD : D ≤ 3) (hC : ch_RC post D e xg xh xr xp xq xz) : ch_RC post D (e + 1) xg xh xr xp xq xz := by
  intro L s b eD hs hO hK rest
  have cL1 : (nI (L + 1)).toNatClampNeg = L + 1 := nI_clamp (by omega)
  induction rest with
  | nil =>
    intro q r n xt xv xk rows er ht hr hn K
    have K := K n q xt xv xk (by simp only [ch_sm]; omega) ht er ch_e1_r ch_e1_r ch_e1_r
    simp only [ch_sm, Nat.add_zero, nI_0, Int32.add_zero] at K
    exact K
  | cons p rest ih =>
    intro q r n xt xv xk rows er ht hr hn K
    obtain ⟨-, hp, hg, e4, -⟩ := ch_Rcons _ _ rfl p rest er
    obtain ⟨m, rfl⟩ : ∃ m, n = m + 1 := ⟨n - 1, by omega⟩
    simp only [ch_sm] at hr K
    have ec : ch_cc (e + 1) b s p = 2 + ch_sm (ch_cc e (ch_pp b s p) (1 - s)) (ch_L (ch_pp b s p) (1 - s)) := rfl
    have en : ch_cn (e + 1) (ch_pp b s p) (1 - s) = ch_sm (fun p' => ch_cn e (ch_pp (ch_pp b s p) (1 - s) p') (1 - (1 - s))) (ch_L (ch_pp b s p) (1 - s)) := rfl
    rw [ec] at hr K
    rw [en] at K
    refine cr_step hs hO hK (by omega) (by omega) ht (fun z => by rw [er] at z; cases z) (fun _ => ?_)
    rw [er]
    refine br_f (ch_nm_ne hp) (br_f ?_ (cx_play hs hO hp (by omega) (nm_r (nI_1 L) ⟨vp_in_nI (by omega) (by decide), nm_r (e' := upd (upd xt L (nI (ch_nm p))) (L + 1) (-1)) (by rw [cL1]) (nm_r (nI_1 r) ?_)⟩)))
    · rw [show D = (D - 1) + 1 by omega, nI_pred]
      intro z
      have := (nI_eq (by omega) (by omega)).mp z
      omega
    · refine hC (L + 1) (1 - s) (ch_pp b s p) (by omega) (by omega) (ch_pp_Ok hp hO) (ch_pp_K1 hp hK) (ch_L (ch_pp b s p) (1 - s)) 0 (r + 1) m _ _ _ rows rfl (by rw [pk_us]; exact ch_tr_0) (by omega) (by omega) ?_
      intro n' q' xt' xv' xk' hn' ht' er' a1 a2 a3
      obtain ⟨m', rfl⟩ : ∃ m', n' = m' + 1 := ⟨n' - 1, by omega⟩
      have etL : xt' L = nI (ch_nm p) := by rw [a1 L (by omega), pk_un (by omega), pk_us]
      refine cr_step (by omega) (ch_pp_Ok hp hO) (ch_pp_K1 hp hK) (by omega) (by omega) ht' (fun _ z => by omega) (fun _ => ?_)
      rw [er']
      refine br_t rfl (nm_r (e' := nI L) (pk_m1 L) (cx_takeBack (ch_mu hs) hp (by omega) etL ?_))
      rw [a2 L (by omega), a3 L (by omega), pk_us, pk_us, ch_back_pp hp hg]
      refine nm_r (nI_1 _) (ih (p + 1) _ m' xt' xv' xk' _ e4.symm (by rw [etL]; exact ch_tr_p hp hg) (by omega) (by omega) ?_)
      intro n2 q2 xt2 xv2 xk2 hn2 ht2 er2 c1 c2 c3
      have K := K n2 q2 xt2 xv2 xk2 (by omega) ht2 er2 (ch_e1_t (ch_e1_t (ch_e1_t (ch_e1_u (Nat.le_refl L)) (ch_e1_u (by omega))) (ch_e1_m a1 (by omega))) c1) (ch_e1_t (ch_e1_t (ch_e1_u (Nat.le_refl L)) (ch_e1_m a2 (by omega))) c2) (ch_e1_t (ch_e1_t (ch_e1_u (Nat.le_refl L)) (ch_e1_m a3 (by omega))) c3)
      rw [← nI_add, ← Int32.add_assoc] at K
      rw [show r + 1 + ch_sm (ch_cc e (ch_pp b s p) (1 - s)) (ch_L (ch_pp b s p) (1 - s)) + 1 + ch_sm (ch_cc (e + 1) b s) rest = r + (2 + ch_sm (ch_cc e (ch_pp b s p) (1 - s)) (ch_L (ch_pp b s p) (1 - s)) + ch_sm (ch_cc (e + 1) b s) rest) by omega]
      exact K
theorem cr_row {post : Int32 → SX → Prop} {D : Nat} {xg xh xr : Int32} {xp xq xz : Nat → Int32} (hD : D ≤ 3) : ∀ e, ch_RC post D e xg xh xr xp xq xz := by
  intro e
  induction e with
  | zero => exact cr_row0 hD
  | succ e ih => exact cr_rows hD ih
section
variable {xg xh xr : Int32} {b xp xq xt xv xk xz : Nat → Int32}
theorem cr_all {post : Int32 → SX → Prop} {s e : Nat} (he : e ≤ 2) (hs : s < 2) (hO : ch_Ok b) (hK : ch_K1 b) (hz : ch_nz b ≤ 6) (e0 : xt 0 = -1)
    (H : ∀ xt' xv' xk', post (nI (ch_cn (e + 1) b s)) (xg, nI s, xh, xr, b, xp, xq, xt', xv', xk', xz)) : ∀ n, n + 0 = 100000001 → wX_countRows_14 post (nI (e + 1)) n 0 (nI 0) (nI 0) xg (nI s) xh xr b xp xq xt xv xk xz := by
  intro n hn
  have hT := ch_T_num (d := e + 1) (b := b) (s := s) (by omega) hs hz
  have hT2 := ch_cc_le e b s
  refine cr_row (by omega) e 0 s b (by omega) hs hO hK (ch_L b s) 0 0 n xt xv xk 0 rfl (by rw [e0]; exact ch_tr_0) (by omega) hn ?_
  intro n' q' xt' xv' xk' hn' ht' er' a1 a2 a3
  obtain ⟨m, rfl⟩ : ∃ m, n' = m + 1 := ⟨n' - 1, by omega⟩
  refine cr_step hs hO hK (by omega) (by omega) ht' (fun _ _ => ?_) (fun z => absurd ⟨er', rfl⟩ z)
  rw [Int32.zero_add]
  exact H xt' xv' xk'
theorem cx_countRows {post : Int32 → SX → Prop} {s e : Nat} (he : e ≤ 2) (hs : s < 2) (hO : ch_Ok b) (hK : ch_K1 b) (hz : ch_nz b ≤ 6)
    (H : ∀ xt' xv' xk', post (nI (ch_cn (e + 1) b s)) (xg, nI s, xh, xr, b, xp, xq, xt', xv', xk', xz)) : wpX_countRows post (xg, nI s, xh, xr, b, xp, xq, xt, xv, xk, xz) (nI (e + 1)) :=
  nm_e ⟨100000001, cr_all he hs hO hK hz pk_us H 100000001 rfl⟩
end
end
section
/-! the component: forced mates -/
theorem ch_nnt {x : Bool} (h : (!x) = false) : x = true := by cases x with
  | true => rfl
  | false => cases h
theorem ch_nnf {x : Bool} (h : (!x) = true) : x = false := by cases x with
  | true => cases h
  | false => rfl
section
variable {xg xm xh xr : Int32} {b xp xq xt xv xk xz : Nat → Int32}
theorem cx_escapes {post : Int32 → Prop} {L s : Nat} {x4 : Int32} (hs : s < 2) (hO : ch_Ok b) (hK : ch_K1 b) (hL : L < 4) (H : post (ch_bI (!decide (x4 = -1) || (decide (xt L = -1) && !ch_ck b s)))) : wpX_escapes post (xg, nI s, xh, xr, b, xp, xq, xt, xv, xk, xz) (nI L) x4 := by
  have cL : (nI L).toNatClampNeg = L := nI_clamp (by omega)
  by_cases e : x4 = -1
  · rw [decide_eq_true e] at H
    refine br_t e ⟨vp_in_nI hL (by decide), ?_⟩
    rw [cL]
    by_cases e2 : xt L = -1
    · rw [decide_eq_true e2] at H
      refine br_t e2 (cx_inCheck hs hO hK ?_)
      cases hc : ch_ck b s with
      | true => rw [hc] at H; exact br_f (by decide) H
      | false => rw [hc] at H; exact br_t rfl H
    · rw [decide_eq_false e2] at H
      exact br_f e2 H
  · rw [decide_eq_false e] at H
    exact br_f e H
end
section
variable {xg xh xr : Int32} {b xp xq xt xv xk xz : Nat → Int32}
theorem cm_down {post : Int32 → SX → Prop} {M m L r s q p : Nat} {rest : List Nat} (hs : s < 2) (hO : ch_Ok b) (hK : ch_K1 b) (hM : M ≤ 3) (hL : L < M) (hr : r < 100000000) (ht : ch_tr b s (xt L) q) (er : ch_Rl (ch_lg b s) q = p :: rest)
    (H : wX_forcesMate_11 post (nI M) m (nI (L + 1)) (nI (r + 1)) xg (nI (1 - s)) xh xr (ch_pp b s p) xp xq (upd (upd xt L (nI (ch_nm p))) (L + 1) (-1)) (upd xv L (b (p / 36))) (upd xk L (b (p % 36))) xz) :
    wX_forcesMate_11 post (nI M) (m + 1) (nI L) (nI r) xg (nI s) xh xr b xp xq xt xv xk xz := by
  have cL : (nI L).toNatClampNeg = L := nI_clamp (by omega)
  have cL1 : (nI (L + 1)).toNatClampNeg = L + 1 := nI_clamp (by omega)
  obtain ⟨-, hp, hg, -, -⟩ := ch_Rcons _ _ rfl p rest er
  refine br_f (nI_ge (b := 100000000) hr (by decide)) ⟨vp_in_nI (by omega) (by decide), ?_⟩
  rw [cL]
  refine cx_nl_t hs hO hK ht ?_
  rw [er]
  exact br_f (ch_nm_ne hp) (br_f (nI_ge (by omega) (by omega)) (cx_play hs hO hp (by omega) (nm_r (nI_1 L) ⟨vp_in_nI (by omega) (by decide), nm_r (e' := upd (upd xt L (nI (ch_nm p))) (L + 1) (-1)) (by rw [cL1]) (nm_r (nI_1 r) H)⟩)))
theorem cm_stay {post : Int32 → SX → Prop} {M m L r s q : Nat} (hs : s < 2) (hO : ch_Ok b) (hK : ch_K1 b) (hM : M ≤ 3) (hL : L ≤ M) (hr : r < 100000000) (ht : ch_tr b s (xt L) q) (hst : ch_Rl (ch_lg b s) q = [] ∨ M ≤ L)
    (H : wX_forcesMate_60 post (wX_forcesMate_11 post (nI M) m) (nI M) (nI L) (nI r) (ch_hX (ch_Rl (ch_lg b s) q)) xg (nI s) xh xr b xp xq xt xv xk xz) :
    wX_forcesMate_11 post (nI M) (m + 1) (nI L) (nI r) xg (nI s) xh xr b xp xq xt xv xk xz := by
  have cL : (nI L).toNatClampNeg = L := nI_clamp (by omega)
  refine br_f (nI_ge (b := 100000000) hr (by decide)) ⟨vp_in_nI (by omega) (by decide), ?_⟩
  rw [cL]
  refine cx_nl_t hs hO hK ht ?_
  by_cases e : ch_Rl (ch_lg b s) q = []
  · exact br_t ((ch_hX_nil ch_Rl_lt).mpr e) H
  · exact br_f (fun w => e ((ch_hX_nil ch_Rl_lt).mp w)) (br_t (nI_le (hst.resolve_left e) (by omega)) H)
theorem cm_par : ∀ L, L < 4 → ((nI L - nI L / 2 * 2 = 1) ↔ L % 2 = 1) := by decide +kernel
/-- an odd level: the defender escapes, or the move that led here holds -/
theorem cm_odd {post : Int32 → SX → Prop} {J : Int32 → Int32 → Int32 → Int32 → Int32 → Int32 → (Nat → Int32) → (Nat → Int32) → (Nat → Int32) → (Nat → Int32) → (Nat → Int32) → (Nat → Int32) → (Nat → Int32) → Prop} {x1 x4 : Int32} {L r s p : Nat} {b0 : Nat → Int32} (hs : s < 2) (hO : ch_Ok b) (hK : ch_K1 b) (hL : L < 3) (hodd : (L + 1) % 2 = 1) (hp : p < 1296) (et : xt L = nI (ch_nm p)) (eb : upd (upd b (p / 36) (xv L)) (p % 36) (xk L) = b0)
    (h1 : (!decide (x4 = -1) || (decide (xt (L + 1) = -1) && !ch_ck b s)) = true → J (nI L) (nI (r + 1)) xg (nI (1 - s)) xh xr b0 xp xq xt xv xk xz)
    (h2 : (!decide (x4 = -1) || (decide (xt (L + 1) = -1) && !ch_ck b s)) = false → wX_forcesMate_88 post J x1 (nI (L + 1)) (nI r) xg (nI s) xh xr b xp xq xt xv xk xz) :
    wX_forcesMate_60 post J x1 (nI (L + 1)) (nI r) x4 xg (nI s) xh xr b xp xq xt xv xk xz := by
  refine ⟨by decide, br_t ((cm_par (L + 1) (by omega)).mpr hodd) (cx_escapes hs hO hK (by omega) ?_)⟩
  cases he : (!decide (x4 = -1) || (decide (xt (L + 1) = -1) && !ch_ck b s)) with
  | false => exact br_t rfl (h2 he)
  | true =>
    refine br_f (by decide) (nm_r (e' := nI L) (pk_m1 L) (cx_takeBack (ch_s4 hs) hp (by omega) et ?_))
    rw [eb]
    exact nm_r (nI_1 r) (h1 he)
/-- level 1 fails: the mate is forced -/
theorem cm_88_1 {post : Int32 → SX → Prop} {J : Int32 → Int32 → Int32 → Int32 → Int32 → Int32 → (Nat → Int32) → (Nat → Int32) → (Nat → Int32) → (Nat → Int32) → (Nat → Int32) → (Nat → Int32) → (Nat → Int32) → Prop} {x1 : Int32} {r s p : Nat} {b0 : Nat → Int32} (hs : s < 2) (hp : p < 1296) (et : xt 0 = nI (ch_nm p)) (eb : upd (upd b (p / 36) (xv 0)) (p % 36) (xk 0) = b0)
    (H : post 1 (xg, nI (1 - s), xh, xr, b0, xp, xq, xt, xv, xk, xz)) : wX_forcesMate_88 post J x1 (nI 1) (nI r) xg (nI s) xh xr b xp xq xt xv xk xz := by
  refine br_f (by decide) (nm_r (e' := nI 0) (by decide) (cx_takeBack (ch_s4 hs) hp (by omega) et ?_))
  rw [eb]
  exact br_t nI_0 H
/-- level 2 or 3 fails: two levels back -/
theorem cm_88_2 {post : Int32 → SX → Prop} {J : Int32 → Int32 → Int32 → Int32 → Int32 → Int32 → (Nat → Int32) → (Nat → Int32) → (Nat → Int32) → (Nat → Int32) → (Nat → Int32) → (Nat → Int32) → (Nat → Int32) → Prop} {x1 : Int32} {r L s p p' : Nat} {b1 b0 : Nat → Int32} (hs : s < 2) (hL : L < 2) (hp : p < 1296) (et : xt (L + 1) = nI (ch_nm p)) (eb : upd (upd b (p / 36) (xv (L + 1))) (p % 36) (xk (L + 1)) = b1) (hp' : p' < 1296) (et' : xt L = nI (ch_nm p')) (eb' : upd (upd b1 (p' / 36) (xv L)) (p' % 36) (xk L) = b0)
    (H : J (nI L) (nI (r + 1)) xg (nI s) xh xr b0 xp xq xt xv xk xz) : wX_forcesMate_88 post J x1 (nI (L + 2)) (nI r) xg (nI s) xh xr b xp xq xt xv xk xz := by
  refine br_f (nI_ne0 (by omega) (by omega)) (nm_r (e' := nI (L + 1)) (pk_m1 (L + 1)) (cx_takeBack (ch_s4 hs) hp (by omega) et ?_))
  rw [eb]
  refine br_f (nI_ne0 (by omega) (by omega)) (nm_r (e' := nI L) (pk_m1 L) (cx_takeBack (ch_mu hs) hp' (by omega) et' ?_))
  rw [eb']
  exact nm_r (nI_1 r) H
theorem cm_88_0 {post : Int32 → SX → Prop} {xm : Int32} {J : Int32 → Int32 → Int32 → Int32 → Int32 → Int32 → (Nat → Int32) → (Nat → Int32) → (Nat → Int32) → (Nat → Int32) → (Nat → Int32) → (Nat → Int32) → (Nat → Int32) → Prop} {x1 : Int32} {r : Nat} (H : post 0 (xg, xm, xh, xr, b, xp, xq, xt, xv, xk, xz)) : wX_forcesMate_88 post J x1 (nI 0) (nI r) xg xm xh xr b xp xq xt xv xk xz := br_t nI_0 H
theorem cm_even {post : Int32 → SX → Prop} {xm : Int32} {J : Int32 → Int32 → Int32 → Int32 → Int32 → Int32 → (Nat → Int32) → (Nat → Int32) → (Nat → Int32) → (Nat → Int32) → (Nat → Int32) → (Nat → Int32) → (Nat → Int32) → Prop} {x1 x4 : Int32} {r L : Nat} (hL : L < 4) (he : ¬ L % 2 = 1) (H : wX_forcesMate_88 post J x1 (nI L) (nI r) xg xm xh xr b xp xq xt xv xk xz) : wX_forcesMate_60 post J x1 (nI L) (nI r) x4 xg xm xh xr b xp xq xt xv xk xz :=
  ⟨by decide, br_f (fun z => he ((cm_par L hL).mp z)) H⟩
end
theorem ch_mt_esc {b : Nat → Int32} {s : Nat} {x : Int32} (hx : x = -1) : (!decide (ch_hX (ch_L b s) = -1) || (decide (x = -1) && !ch_ck b s)) = !ch_mt b s := by
  rw [decide_eq_true hx]
  have h := ch_hX_nil (l := ch_L b s) ch_Rl_lt
  unfold ch_mt
  cases hl : ch_L b s with
  | nil =>
    rw [hl] at h
    rw [decide_eq_true (h.mpr rfl)]
    cases ch_ck b s <;> rfl
  | cons p r =>
    rw [hl] at h
    rw [decide_eq_false (fun z => by cases h.mp z)]
    cases ch_ck b s <;> rfl
/-- what level 1 does, from its first step on: c says whether the mate is forced -/
def ch_MC (post : Int32 → SX → Prop) (M : Nat) (c : (Nat → Int32) → Nat → Bool) (cost : (Nat → Int32) → Nat → Nat) (xg xh xr : Int32) (xp xq xz : Nat → Int32) : Prop :=
  ∀ (s p r n : Nat) (b xt xv xk : Nat → Int32), s < 2 → ch_Ok b → ch_K1 b → p < 1296 → ch_lg b s p = true → xt 0 = nI (ch_nm p) → xv 0 = b (p / 36) → xk 0 = b (p % 36) → xt 1 = -1 → r + cost (ch_pp b s p) (1 - s) < 100000000 → n + r = 100000001 →
    (c (ch_pp b s p) (1 - s) = true → ∀ xt' xv' xk', post 1 (xg, nI s, xh, xr, b, xp, xq, xt', xv', xk', xz)) →
    (c (ch_pp b s p) (1 - s) = false → ∀ n' r' xt' xv' xk', n' + r' = 100000001 → r' ≤ r + cost (ch_pp b s p) (1 - s) → ch_e1 1 xt xt' → wX_forcesMate_11 post (nI M) n' (nI 0) (nI r') xg (nI s) xh xr b xp xq xt' xv' xk' xz) →
    wX_forcesMate_11 post (nI M) n (nI 1) (nI r) xg (nI (1 - s)) xh xr (ch_pp b s p) xp xq xt xv xk xz
theorem cm_row0 {post : Int32 → SX → Prop} {M : Nat} {c : (Nat → Int32) → Nat → Bool} {cost : (Nat → Int32) → Nat → Nat} {xg xh xr : Int32} {xp xq xz : Nat → Int32} (hM : M ≤ 3) (hM0 : 0 < M) (hC : ch_MC post M c cost xg xh xr xp xq xz) {s : Nat} {b : Nat → Int32} (hs : s < 2) (hO : ch_Ok b) (hK : ch_K1 b) :
    ∀ (rest : List Nat) (q r n : Nat) (xt xv xk : Nat → Int32), ch_Rl (ch_lg b s) q = rest → ch_tr b s (xt 0) q → r + (1 + ch_sm (fun p => 1 + cost (ch_pp b s p) (1 - s)) rest) < 100000000 → n + r = 100000001 →
    (∀ xt' xv' xk', post (ch_bI (rest.any fun p => c (ch_pp b s p) (1 - s))) (xg, nI s, xh, xr, b, xp, xq, xt', xv', xk', xz)) →
    wX_forcesMate_11 post (nI M) n (nI 0) (nI r) xg (nI s) xh xr b xp xq xt xv xk xz := by
  intro rest
  induction rest with
  | nil =>
    intro q r n xt xv xk er ht hr hn H
    obtain ⟨m, rfl⟩ : ∃ m, n = m + 1 := ⟨n - 1, by omega⟩
    exact cm_stay hs hO hK hM (by omega) (by omega) ht (Or.inl er) (cm_even (by omega) (by omega) (cm_88_0 (H xt xv xk)))
  | cons p rest ih =>
    intro q r n xt xv xk er ht hr hn H
    obtain ⟨-, hp, hg, e4, -⟩ := ch_Rcons _ _ rfl p rest er
    obtain ⟨m, rfl⟩ : ∃ m, n = m + 1 := ⟨n - 1, by omega⟩
    simp only [ch_sm] at hr
    simp only [List.any_cons] at H
    refine cm_down hs hO hK hM hM0 (by omega) ht er (hC s p (r + 1) m b _ _ _ hs hO hK hp hg ?_ pk_us pk_us pk_us (by omega) (by omega) (fun hc xt' xv' xk' => ?_) (fun hc n' r' xt' xv' xk' hn' hr' e1 => ?_))
    · rw [pk_un (by omega), pk_us]
    · have H0 := H xt' xv' xk'
      rw [hc] at H0
      exact H0
    · rw [hc] at H
      refine ih (p + 1) r' n' xt' xv' xk' e4.symm ?_ (by omega) hn' H
      rw [e1 0 (by omega), pk_un (by omega), pk_us]
      exact ch_tr_p hp hg
/-- mate in one -/
theorem cm_ch1 {post : Int32 → SX → Prop} {xg xh xr : Int32} {xp xq xz : Nat → Int32} : ch_MC post 1 ch_mt (fun _ _ => 1) xg xh xr xp xq xz := by
  intro s p r n b xt xv xk hs hO hK hp hg et ev ek et1 hr hn HT HF
  obtain ⟨m, rfl⟩ : ∃ m, n = m + 1 := ⟨n - 1, by omega⟩
  have hO2 : ch_Ok (ch_pp b s p) := ch_pp_Ok hp hO
  have hK2 : ch_K1 (ch_pp b s p) := ch_pp_K1 hp hK
  have eb : upd (upd (ch_pp b s p) (p / 36) (xv 0)) (p % 36) (xk 0) = b := by rw [ev, ek]; exact ch_back_pp hp hg
  have hm : 1 - (1 - s) = s := ch_s3 hs
  refine cm_stay (q := 0) (by omega) hO2 hK2 (by omega) (Nat.le_refl 1) (by omega) (by rw [et1]; exact ch_tr_0) (Or.inr (Nat.le_refl 1)) ?_
  have ee := ch_mt_esc (b := ch_pp b s p) (s := 1 - s) et1
  refine cm_odd (L := 0) (by omega) hO2 hK2 (by omega) (by omega) hp et eb (fun he => ?_) (fun he => ?_)
  · have he2 := ee.symm.trans he
    rw [hm]
    exact HF (ch_nnf he2) m (r + 1) xt xv xk (by omega) (Nat.le_refl (r + 1)) ch_e1_r
  · have he2 := ee.symm.trans he
    refine cm_88_1 (by omega) hp et eb ?_
    rw [hm]
    exact HT (ch_nnt he2) xt xv xk
end
section
/-! the component: mate in two; all of forcesMate -/
section
variable {xg xh xr : Int32} {xp xq xt xv xk xz : Nat → Int32}
theorem cm_l3 {post : Int32 → SX → Prop} {m r s p1 p2 : Nat} {b1 b2 : Nat → Int32} (hs : s < 2) (hO : ch_Ok b2) (hK : ch_K1 b2) (hr : r < 100000000) (hp2 : p2 < 1296) (hg2 : ch_lg b2 s p2 = true) (et3 : xt 3 = -1) (et2 : xt 2 = nI (ch_nm p2)) (ev2 : xv 2 = b2 (p2 / 36)) (ek2 : xk 2 = b2 (p2 % 36)) (hp1 : p1 < 1296) (et1 : xt 1 = nI (ch_nm p1)) (eb1 : upd (upd b2 (p1 / 36) (xv 1)) (p1 % 36) (xk 1) = b1)
    (HT : ch_mt (ch_pp b2 s p2) (1 - s) = true → wX_forcesMate_11 post (nI 3) m (nI 1) (nI (r + 1)) xg (nI (1 - s)) xh xr b1 xp xq xt xv xk xz)
    (HF : ch_mt (ch_pp b2 s p2) (1 - s) = false → wX_forcesMate_11 post (nI 3) m (nI 2) (nI (r + 1)) xg (nI s) xh xr b2 xp xq xt xv xk xz) :
    wX_forcesMate_11 post (nI 3) (m + 1) (nI 3) (nI r) xg (nI (1 - s)) xh xr (ch_pp b2 s p2) xp xq xt xv xk xz := by
  have hO2 : ch_Ok (ch_pp b2 s p2) := ch_pp_Ok hp2 hO
  have hK2 : ch_K1 (ch_pp b2 s p2) := ch_pp_K1 hp2 hK
  have eb2 : upd (upd (ch_pp b2 s p2) (p2 / 36) (xv 2)) (p2 % 36) (xk 2) = b2 := by rw [ev2, ek2]; exact ch_back_pp hp2 hg2
  refine cm_stay (q := 0) (by omega) hO2 hK2 (Nat.le_refl 3) (Nat.le_refl 3) hr (by rw [et3]; exact ch_tr_0) (Or.inr (Nat.le_refl 3)) ?_
  have ee := ch_mt_esc (b := ch_pp b2 s p2) (s := 1 - s) et3
  refine cm_odd (L := 2) (by omega) hO2 hK2 (by omega) (by omega) hp2 et2 eb2 (fun he => ?_) (fun he => ?_)
  · have he2 := ee.symm.trans he
    rw [ch_s3 hs]
    exact HF (ch_nnf he2)
  · have he2 := ee.symm.trans he
    exact cm_88_2 (L := 1) (by omega) (by omega) hp2 et2 eb2 hp1 et1 eb1 (HT (ch_nnt he2))
end
theorem cm_row2 {post : Int32 → SX → Prop} {xg xh xr : Int32} {xp xq xz : Nat → Int32} {s p0 p1 : Nat} {b0 b1 b2 : Nat → Int32} (hs : s < 2) (hO : ch_Ok b2) (hK : ch_K1 b2) (hp0 : p0 < 1296) (hp1 : p1 < 1296) :
    ∀ (rest : List Nat) (q r n : Nat) (xt xv xk : Nat → Int32), ch_Rl (ch_lg b2 s) q = rest → ch_tr b2 s (xt 2) q → xt 1 = nI (ch_nm p1) → upd (upd b2 (p1 / 36) (xv 1)) (p1 % 36) (xk 1) = b1 → xt 0 = nI (ch_nm p0) → upd (upd b1 (p0 / 36) (xv 0)) (p0 % 36) (xk 0) = b0 →
    r + (1 + ch_sm (fun _ => 1 + 1) rest) < 100000000 → n + r = 100000001 →
    ((rest.any fun p => ch_mt (ch_pp b2 s p) (1 - s)) = true → ∀ n' r' xt' xv' xk', n' + r' = 100000001 → r' ≤ r + (1 + ch_sm (fun _ => 1 + 1) rest) → ch_e1 2 xt xt' → ch_e1 2 xv xv' → ch_e1 2 xk xk' → wX_forcesMate_11 post (nI 3) n' (nI 1) (nI r') xg (nI (1 - s)) xh xr b1 xp xq xt' xv' xk' xz) →
    ((rest.any fun p => ch_mt (ch_pp b2 s p) (1 - s)) = false → ∀ n' r' xt' xv' xk', n' + r' = 100000001 → r' ≤ r + (1 + ch_sm (fun _ => 1 + 1) rest) → ch_e1 2 xt xt' → ch_e1 2 xv xv' → ch_e1 2 xk xk' → wX_forcesMate_11 post (nI 3) n' (nI 0) (nI r') xg (nI s) xh xr b0 xp xq xt' xv' xk' xz) →
    wX_forcesMate_11 post (nI 3) n (nI 2) (nI r) xg (nI s) xh xr b2 xp xq xt xv xk xz := by
  intro rest
  induction rest with
  | nil =>
    intro q r n xt xv xk er ht et1 eb1 et0 eb0 hr hn HT HF
    obtain ⟨m, rfl⟩ : ∃ m, n = m + 1 := ⟨n - 1, by omega⟩
    exact cm_stay hs hO hK (Nat.le_refl 3) (by omega) (by omega) ht (Or.inl er) (cm_even (by omega) (by omega) (cm_88_2 (L := 0) hs (by omega) hp1 et1 eb1 hp0 et0 eb0 (HF rfl m (r + 1) xt xv xk (by omega) (by omega) ch_e1_r ch_e1_r ch_e1_r)))
  | cons p rest ih =>
    intro q r n xt xv xk er ht et1 eb1 et0 eb0 hr hn HT HF
    obtain ⟨-, hp, hg, e4, -⟩ := ch_Rcons _ _ rfl p rest er
    obtain ⟨m, rfl⟩ : ∃ m, n = m + 1 := ⟨n - 1, by omega⟩
    simp only [ch_sm] at hr HT HF
    simp only [List.any_cons] at HT HF
    obtain ⟨m, rfl⟩ : ∃ k, m = k + 1 := ⟨m - 1, by omega⟩
    have u1 : ch_e1 2 xt (upd (upd xt 2 (nI (ch_nm p))) (2 + 1) (-1)) := ch_e1_t (ch_e1_u (Nat.le_refl 2)) (ch_e1_u (by omega))
    have u2 : ch_e1 2 xv (upd xv 2 (b2 (p / 36))) := ch_e1_u (Nat.le_refl 2)
    have u3 : ch_e1 2 xk (upd xk 2 (b2 (p % 36))) := ch_e1_u (Nat.le_refl 2)
    have et2' : upd (upd xt 2 (nI (ch_nm p))) (2 + 1) (-1) 2 = nI (ch_nm p) := by rw [pk_un (by omega), pk_us]
    have et1' : upd (upd xt 2 (nI (ch_nm p))) (2 + 1) (-1) 1 = nI (ch_nm p1) := (u1 1 (by omega)).trans et1
    have et0' : upd (upd xt 2 (nI (ch_nm p))) (2 + 1) (-1) 0 = nI (ch_nm p0) := (u1 0 (by omega)).trans et0
    have eb1' : upd (upd b2 (p1 / 36) (upd xv 2 (b2 (p / 36)) 1)) (p1 % 36) (upd xk 2 (b2 (p % 36)) 1) = b1 := by rw [u2 1 (by omega), u3 1 (by omega)]; exact eb1
    have eb0' : upd (upd b1 (p0 / 36) (upd xv 2 (b2 (p / 36)) 0)) (p0 % 36) (upd xk 2 (b2 (p % 36)) 0) = b0 := by rw [u2 0 (by omega), u3 0 (by omega)]; exact eb0
    refine cm_down hs hO hK (Nat.le_refl 3) (by omega) (by omega) ht er (cm_l3 (p1 := p1) (b1 := b1) hs hO hK (by omega) hp hg pk_us et2' pk_us pk_us hp1 et1' eb1' (fun hc => ?_) (fun hc => ?_))
    · rw [hc] at HT
      exact HT rfl m (r + 1 + 1) _ _ _ (by omega) (by omega) u1 u2 u3
    · rw [hc, Bool.false_or] at HT HF
      refine ih (p + 1) (r + 1 + 1) m _ _ _ e4.symm (by rw [et2']; exact ch_tr_p hp hg) et1' eb1' et0' eb0' (by omega) (by omega) (fun h n' r' xt' xv' xk' a1 a2 a3 a4 a5 => ?_) (fun h n' r' xt' xv' xk' a1 a2 a3 a4 a5 => ?_)
      · exact HT h n' r' xt' xv' xk' a1 (by omega) (ch_e1_t u1 a3) (ch_e1_t u2 a4) (ch_e1_t u3 a5)
      · exact HF h n' r' xt' xv' xk' a1 (by omega) (ch_e1_t u1 a3) (ch_e1_t u2 a4) (ch_e1_t u3 a5)
theorem cm_row1 {post : Int32 → SX → Prop} {xg xh xr : Int32} {xp xq xz : Nat → Int32} {u p0 : Nat} {b0 b1 : Nat → Int32} (hu : u < 2) (hO : ch_Ok b1) (hK : ch_K1 b1) (hp0 : p0 < 1296) :
    ∀ (rest : List Nat) (q r n : Nat) (xt xv xk : Nat → Int32), ch_Rl (ch_lg b1 u) q = rest → ch_tr b1 u (xt 1) q → xt 0 = nI (ch_nm p0) → upd (upd b1 (p0 / 36) (xv 0)) (p0 % 36) (xk 0) = b0 →
    r + (1 + ch_sm (fun p => 1 + ch_T 1 (ch_pp b1 u p) (1 - u)) rest) < 100000000 → n + r = 100000001 →
    (((rest.all fun p => ch_cm (ch_pp b1 u p) (1 - u)) && (!(ch_L b1 u).isEmpty || ch_ck b1 u)) = true → ∀ xt' xv' xk', post 1 (xg, nI (1 - u), xh, xr, b0, xp, xq, xt', xv', xk', xz)) →
    (((rest.all fun p => ch_cm (ch_pp b1 u p) (1 - u)) && (!(ch_L b1 u).isEmpty || ch_ck b1 u)) = false → ∀ n' r' xt' xv' xk', n' + r' = 100000001 → r' ≤ r + (1 + ch_sm (fun p => 1 + ch_T 1 (ch_pp b1 u p) (1 - u)) rest) → ch_e1 1 xt xt' → wX_forcesMate_11 post (nI 3) n' (nI 0) (nI r') xg (nI (1 - u)) xh xr b0 xp xq xt' xv' xk' xz) →
    wX_forcesMate_11 post (nI 3) n (nI 1) (nI r) xg (nI u) xh xr b1 xp xq xt xv xk xz := by
  intro rest
  induction rest with
  | nil =>
    intro q r n xt xv xk er ht et0 eb0 hr hn HT HF
    obtain ⟨m, rfl⟩ : ∃ m, n = m + 1 := ⟨n - 1, by omega⟩
    simp only [List.all_nil, Bool.true_and] at HT HF
    refine cm_stay hu hO hK (Nat.le_refl 3) (by omega) (by omega) ht (Or.inl er) ?_
    rw [er]
    have hx := ch_tr_end ht er
    have ee : (!decide (ch_hX [] = -1) || (decide (xt 1 = -1) && !ch_ck b1 u)) = !(!(ch_L b1 u).isEmpty || ch_ck b1 u) := by
      have h1 : (decide (xt 1 = -1)) = (ch_L b1 u).isEmpty := by
        apply Bool.eq_iff_iff.mpr
        rw [decide_eq_true_eq, hx, List.isEmpty_iff]
      rw [h1]
      show (!(true) || ((ch_L b1 u).isEmpty && !ch_ck b1 u)) = _
      cases (ch_L b1 u).isEmpty <;> cases ch_ck b1 u <;> rfl
    refine cm_odd (L := 0) hu hO hK (by omega) (by omega) hp0 et0 eb0 (fun he => ?_) (fun he => ?_)
    · have he2 := ee.symm.trans he
      exact HF (ch_nnf he2) m (r + 1) xt xv xk (by omega) (by omega) ch_e1_r
    · have he2 := ee.symm.trans he
      exact cm_88_1 hu hp0 et0 eb0 (HT (ch_nnt he2) xt xv xk)
  | cons p rest ih =>
    intro q r n xt xv xk er ht et0 eb0 hr hn HT HF
    obtain ⟨-, hp, hg, e4, -⟩ := ch_Rcons _ _ rfl p rest er
    obtain ⟨m, rfl⟩ : ∃ m, n = m + 1 := ⟨n - 1, by omega⟩
    have eT : ch_T 1 (ch_pp b1 u p) (1 - u) = 1 + ch_sm (fun _ => 1 + 1) (ch_L (ch_pp b1 u p) (1 - u)) := rfl
    simp only [ch_sm] at hr HT HF
    rw [eT] at hr HF
    simp only [List.all_cons] at HT HF
    have u1 : ch_e1 1 xt (upd (upd xt 1 (nI (ch_nm p))) (1 + 1) (-1)) := ch_e1_t (ch_e1_u (Nat.le_refl 1)) (ch_e1_u (by omega))
    have u2 : ch_e1 1 xv (upd xv 1 (b1 (p / 36))) := ch_e1_u (Nat.le_refl 1)
    have u3 : ch_e1 1 xk (upd xk 1 (b1 (p % 36))) := ch_e1_u (Nat.le_refl 1)
    have et1' : upd (upd xt 1 (nI (ch_nm p))) (1 + 1) (-1) 1 = nI (ch_nm p) := by rw [pk_un (by omega), pk_us]
    have et0' : upd (upd xt 1 (nI (ch_nm p))) (1 + 1) (-1) 0 = nI (ch_nm p0) := (u1 0 (by omega)).trans et0
    have eb1' : upd (upd (ch_pp b1 u p) (p / 36) (upd xv 1 (b1 (p / 36)) 1)) (p % 36) (upd xk 1 (b1 (p % 36)) 1) = b1 := by rw [pk_us, pk_us]; exact ch_back_pp hp hg
    have eb0' : upd (upd b1 (p0 / 36) (upd xv 1 (b1 (p / 36)) 0)) (p0 % 36) (upd xk 1 (b1 (p % 36)) 0) = b0 := by rw [u2 0 (by omega), u3 0 (by omega)]; exact eb0
    refine cm_down hu hO hK (Nat.le_refl 3) (by omega) (by omega) ht er (cm_row2 (p0 := p0) (p1 := p) (b0 := b0) (b1 := b1) (by omega) (ch_pp_Ok hp hO) (ch_pp_K1 hp hK) hp0 hp (ch_L (ch_pp b1 u p) (1 - u)) 0 (r + 1) m _ _ _ rfl (by rw [pk_us]; exact ch_tr_0) et1' eb1' et0' eb0' (by omega) (by omega) (fun hc n' r' xt' xv' xk' a1 a2 a3 a4 a5 => ?_) (fun hc n' r' xt' xv' xk' a1 a2 a3 a4 a5 => ?_))
    · have hc2 : ch_cm (ch_pp b1 u p) (1 - u) = true := hc
      rw [hc2, Bool.true_and] at HT HF
      rw [ch_s3 hu]
      refine ih (p + 1) r' n' xt' xv' xk' e4.symm (by rw [a3 1 (by omega), et1']; exact ch_tr_p hp hg) (by rw [a3 0 (by omega)]; exact et0') (by rw [a4 0 (by omega), a5 0 (by omega)]; exact eb0') (by omega) a1 HT (fun h n2 r2 xt2 xv2 xk2 c1 c2 c3 => ?_)
      exact HF h n2 r2 xt2 xv2 xk2 c1 (by omega) (ch_e1_t u1 (ch_e1_t (ch_e1_m a3 (by omega)) c3))
    · have hc2 : ch_cm (ch_pp b1 u p) (1 - u) = false := hc
      rw [hc2, Bool.false_and, Bool.false_and] at HF
      exact HF rfl n' r' xt' xv' xk' a1 (by omega) (ch_e1_t u1 (ch_e1_m a3 (by omega)))
theorem cm_ch3 {post : Int32 → SX → Prop} {xg xh xr : Int32} {xp xq xz : Nat → Int32} : ch_MC post 3 ch_ls (ch_T 2) xg xh xr xp xq xz := by
  intro s p r n b xt xv xk hs hO hK hp hg et ev ek et1 hr hn HT HF
  have eb : upd (upd (ch_pp b s p) (p / 36) (xv 0)) (p % 36) (xk 0) = b := by rw [ev, ek]; exact ch_back_pp hp hg
  have eT : ch_T 2 (ch_pp b s p) (1 - s) = 1 + ch_sm (fun p' => 1 + ch_T 1 (ch_pp (ch_pp b s p) (1 - s) p') (1 - (1 - s))) (ch_L (ch_pp b s p) (1 - s)) := rfl
  rw [eT] at hr HF
  have el : ((ch_L (ch_pp b s p) (1 - s)).all (fun p' => ch_cm (ch_pp (ch_pp b s p) (1 - s) p') (1 - (1 - s))) && (!(ch_L (ch_pp b s p) (1 - s)).isEmpty || ch_ck (ch_pp b s p) (1 - s))) = ch_ls (ch_pp b s p) (1 - s) := by
    unfold ch_ls
    cases hl : ch_L (ch_pp b s p) (1 - s) with
    | nil => rfl
    | cons p' r' => simp
  refine cm_row1 (p0 := p) (b0 := b) (by omega) (ch_pp_Ok hp hO) (ch_pp_K1 hp hK) hp (ch_L (ch_pp b s p) (1 - s)) 0 r n xt xv xk rfl (by rw [et1]; exact ch_tr_0) et eb hr hn (fun h xt' xv' xk' => ?_) (fun h n' r' xt' xv' xk' a1 a2 a3 => ?_)
  · rw [ch_s3 hs]; exact HT (el.symm.trans h) xt' xv' xk'
  · rw [ch_s3 hs]; exact HF (el.symm.trans h) n' r' xt' xv' xk' a1 a2 a3
section
variable {xg xh xr : Int32} {b xp xq xt xv xk xz : Nat → Int32}
theorem cx_mate1 {post : Int32 → SX → Prop} {s : Nat} (hs : s < 2) (hO : ch_Ok b) (hK : ch_K1 b) (hz : ch_nz b ≤ 6) (H : ∀ xt' xv' xk', post (ch_bI (ch_cm b s)) (xg, nI s, xh, xr, b, xp, xq, xt', xv', xk', xz)) : wpX_forcesMate post (xg, nI s, xh, xr, b, xp, xq, xt, xv, xk, xz) (nI 1) := by
  have hT := ch_T_num (d := 1) (b := b) (s := s) (by omega) hs hz
  have eT : ch_T 1 b s = 1 + ch_sm (fun p => 1 + (fun _ _ => 1 : (Nat → Int32) → Nat → Nat) (ch_pp b s p) (1 - s)) (ch_L b s) := rfl
  have key : ∀ n, n + 0 = 100000001 → wX_forcesMate_11 post (nI 1) n (nI 0) (nI 0) xg (nI s) xh xr b xp xq (upd xt 0 (-1)) xv xk xz := fun n hn =>
    cm_row0 (by omega) (by omega) cm_ch1 hs hO hK (ch_L b s) 0 0 n _ xv xk rfl (by rw [pk_us]; exact ch_tr_0) (by rw [← eT]; omega) hn H
  exact nm_e ⟨100000001, key 100000001 rfl⟩
theorem cx_mate2 {post : Int32 → SX → Prop} {s : Nat} (hs : s < 2) (hO : ch_Ok b) (hK : ch_K1 b) (hz : ch_nz b ≤ 6) (H : ∀ xt' xv' xk', post (ch_bI (ch_m2 b s)) (xg, nI s, xh, xr, b, xp, xq, xt', xv', xk', xz)) : wpX_forcesMate post (xg, nI s, xh, xr, b, xp, xq, xt, xv, xk, xz) (nI 3) := by
  have hT := ch_T_num (d := 3) (b := b) (s := s) (by omega) hs hz
  have eT : ch_T 3 b s = 1 + ch_sm (fun p => 1 + ch_T 2 (ch_pp b s p) (1 - s)) (ch_L b s) := rfl
  have key : ∀ n, n + 0 = 100000001 → wX_forcesMate_11 post (nI 3) n (nI 0) (nI 0) xg (nI s) xh xr b xp xq (upd xt 0 (-1)) xv xk xz := fun n hn =>
    cm_row0 (by omega) (by omega) cm_ch3 hs hO hK (ch_L b s) 0 0 n _ xv xk rfl (by rw [pk_us]; exact ch_tr_0) (by rw [← eT]; omega) hn H
  exact nm_e ⟨100000001, key 100000001 rfl⟩
end
end
section
/-! the relation of the two states -/
def i_Rel (_ : Nat) (u : SX) (v : SY) : Prop :=
  (∃ (xm xh xr : Int32) (b xp xq xt xv xk xz : Nat → Int32) (ym yh yl ya yb : Int32) (yF yT yM yC yp yt yz : Nat → Int32), u = (0, xm, xh, xr, b, xp, xq, xt, xv, xk, xz) ∧ v = (0, ym, yh, yl, ya, yb, b, yF, yT, yM, yC, yp, yt, yz) ∧ ch_Ok b ∧ ch_nz b ≤ 6) ∨
  (∃ (s h : Nat) (xr : Int32) (b xp xq xt xv xk xz : Nat → Int32) (yl ya yb : Int32) (yF yT yM yC yp yt yz : Nat → Int32), u = (1, nI s, nI h, xr, b, xp, xq, xt, xv, xk, xz) ∧ v = (1, nI s, nI h, yl, ya, yb, b, yF, yT, yM, yC, yp, yt, yz) ∧ s < 2 ∧ h ≤ 60 ∧ ch_H h b xp xq yp yF yT yM yC)
theorem i_up {k : Nat} {u : SX} {v : SY} (h : i_Rel k u v) : i_Rel (k + 3) u v := h
theorem ch_R0 {k : Nat} {xm xh xr : Int32} {b xp xq xt xv xk xz : Nat → Int32} {ym yh yl ya yb : Int32} {yF yT yM yC yp yt yz : Nat → Int32} (h1 : ch_Ok b) (h2 : ch_nz b ≤ 6) : i_Rel k (0, xm, xh, xr, b, xp, xq, xt, xv, xk, xz) (0, ym, yh, yl, ya, yb, b, yF, yT, yM, yC, yp, yt, yz) :=
  Or.inl ⟨xm, xh, xr, b, xp, xq, xt, xv, xk, xz, ym, yh, yl, ya, yb, yF, yT, yM, yC, yp, yt, yz, rfl, rfl, h1, h2⟩
theorem ch_R1 {k s h : Nat} {xr : Int32} {b xp xq xt xv xk xz : Nat → Int32} {yl ya yb : Int32} {yF yT yM yC yp yt yz : Nat → Int32} (hs : s < 2) (hh : h ≤ 60) (H : ch_H h b xp xq yp yF yT yM yC) : i_Rel k (1, nI s, nI h, xr, b, xp, xq, xt, xv, xk, xz) (1, nI s, nI h, yl, ya, yb, b, yF, yT, yM, yC, yp, yt, yz) :=
  Or.inr ⟨s, h, xr, b, xp, xq, xt, xv, xk, xz, yl, ya, yb, yF, yT, yM, yC, yp, yt, yz, rfl, rfl, hs, hh, H⟩
theorem ch_any {k : Nat} {u : SX} {v : SY} (I : i_Rel k u v) : ∃ (xg xm xh xr : Int32) (b xp xq xt xv xk xz : Nat → Int32) (ym yh yl ya yb : Int32) (yF yT yM yC yp yt yz : Nat → Int32), u = (xg, xm, xh, xr, b, xp, xq, xt, xv, xk, xz) ∧ v = (xg, ym, yh, yl, ya, yb, b, yF, yT, yM, yC, yp, yt, yz) ∧ ch_Ok b := by
  rcases I with ⟨xm, xh, xr, b, xp, xq, xt, xv, xk, xz, ym, yh, yl, ya, yb, yF, yT, yM, yC, yp, yt, yz, e1, e2, h1, h2⟩ | ⟨s, h, xr, b, xp, xq, xt, xv, xk, xz, yl, ya, yb, yF, yT, yM, yC, yp, yt, yz, e1, e2, hs, hh, H⟩
  · exact ⟨0, xm, xh, xr, b, xp, xq, xt, xv, xk, xz, ym, yh, yl, ya, yb, yF, yT, yM, yC, yp, yt, yz, e1, e2, h1⟩
  · exact ⟨1, nI s, nI h, xr, b, xp, xq, xt, xv, xk, xz, nI s, nI h, yl, ya, yb, yF, yT, yM, yC, yp, yt, yz, e1, e2, (ch_H_G H).1⟩
theorem ch_zero_Ok : ch_Ok (fun _ => 0) := fun _ _ => ch_ok_0
theorem i_vc0 : wpX_init (fun u => wpY_init (fun v => i_Rel 0 u v)) :=
  ch_R0 (k := 0) ch_zero_Ok (by decide)
/-! put -/
theorem ch_nz_u (b : Nat → Int32) {j : Nat} (hj : j < 36) (x : Int32) : ch_nz (upd b j x) + (if b j = 0 then 0 else 1) = ch_nz b + (if x = 0 then 0 else 1) := by
  have h := ch_ct_upd (fun i => !decide (b i = 0)) j (!decide (x = 0)) 36 hj
  have e : ch_ct (fun i => if i = j then !decide (x = 0) else !decide (b i = 0)) 36 = ch_nz (upd b j x) := by
    unfold ch_nz
    refine ch_ct_congr fun i _ => ?_
    unfold upd
    by_cases c : i = j
    · rw [if_pos c, if_pos c]
    · rw [if_neg c, if_neg c]
  rw [e] at h
  have e1 : (if (!decide (b j = 0)) = true then 1 else 0) = (if b j = 0 then 0 else 1) := by
    by_cases c : b j = 0
    · rw [if_pos c, decide_eq_true c]; rfl
    · rw [if_neg c, decide_eq_false c]; rfl
  have e2 : (if (!decide (x = 0)) = true then 1 else 0) = (if x = 0 then 0 else 1) := by
    by_cases c : x = 0
    · rw [if_pos c, decide_eq_true c]; rfl
    · rw [if_neg c, decide_eq_false c]; rfl
  rw [e1, e2] at h
  exact h
theorem ch_nz_put {b : Nat → Int32} {j : Nat} {x : Int32} (hj : j < 36) (h6 : ch_nz b ≤ 6) (h : x = 0 ∨ ¬ b j = 0 ∨ ch_nz b < 6) : ch_nz (upd b j x) ≤ 6 := by
  have h1 := ch_nz_u b hj x
  have h2 : (if x = 0 then 0 else 1) ≤ 1 := by split <;> omega
  rcases h with h | h | h
  · rw [if_pos h] at h1; omega
  · rw [if_neg h] at h1; omega
  · omega
theorem cx_ipn {post : Int32 → Prop} {p : Int32} (H1 : ch_ok p → post 1) (H0 : ¬ ch_ok p → post 0) : wpX_isPieceOrNothing post p := by
  unfold wpX_isPieceOrNothing wpX_kindOf
  by_cases h0 : p < 0
  · exact br_t h0 (H0 fun q => (ch_ok_in.mp q).1 h0)
  · refine br_f h0 ?_
    by_cases h1 : 14 < p
    · exact br_t h1 (H0 fun q => absurd (ch_ok_in.mp q).2.1 (Int32.not_le.mpr h1))
    · refine br_f h1 ?_
      have hX := ch_ok_X h0 (Int32.not_lt.mp h1)
      by_cases h2 : 6 < p &&& 7
      · exact br_t h2 (H0 fun q => absurd (hX.mp q).1 (Int32.not_le.mpr h2))
      · refine br_f h2 ?_
        by_cases h3 : p = 0
        · exact br_t h3 (H1 (Or.inl h3))
        · refine br_f h3 ?_
          by_cases h4 : p &&& 7 = 0
          · exact br_t h4 (H0 fun q => ((hX.mp q).2).elim h3 (fun w => w h4))
          · exact br_f h4 (H1 (hX.mpr ⟨Int32.not_lt.mp h2, Or.inr h4⟩))
theorem cy_ipn {A B : Prop} {p : Int32} (H1 : ch_ok p → A) (H0 : ¬ ch_ok p → B) : (p < 0 → B) ∧ (¬ p < 0 → ((14 < p → B) ∧ (¬ 14 < p → ((p = 7 → B) ∧ (¬ p = 7 → ((p = 8 → B) ∧ (¬ p = 8 → A))))))) := by
  refine br_c (fun h => H0 fun q => (ch_ok_in.mp q).1 h) (fun h0 => br_c (fun h => H0 fun q => absurd (ch_ok_in.mp q).2.1 (Int32.not_le.mpr h)) (fun h1 => br_c (fun h => H0 fun q => (ch_ok_in.mp q).2.2.1 h) (fun h2 => br_c (fun h => H0 fun q => (ch_ok_in.mp q).2.2.2 h) (fun h3 => H1 (ch_ok_in.mpr ⟨h0, Int32.not_lt.mp h1, h2, h3⟩)))))
theorem i_vc_put {k : Nat} {u : SX} {v : SY} (I : i_Rel k u v) (hk : k + 3 ≤ 1536) (v1 : Int32) (v2 : Int32) : wpX_put (fun r u' => wpY_put (fun r' v' => r' = r ∧ i_Rel (k + 3) u' v') v v1 v2) u v1 v2 := by
  obtain ⟨xg, xm, xh, xr, b, xp, xq, xt, xv, xk, xz, ym, yh, yl, ya, yb, yF, yT, yM, yC, yp, yt, yz, e1, e2, hO⟩ := ch_any I
  have out : (v1 < 0 ∨ nI 36 ≤ v1) → wpX_put (fun r u' => wpY_put (fun r' v' => r' = r ∧ i_Rel (k + 3) u' v') v v1 v2) u v1 v2 := by
    intro h
    subst e1 e2
    unfold wpX_put
    dsimp only
    refine cx_sq_out h ?_
    refine br_t rfl ?_
    unfold wpY_put
    dsimp only
    refine cy_sq_out h ?_
    exact br_t rfl ⟨rfl, I⟩
  rcases pk_ix v1 (n := 36) (by decide) with h | h | ⟨j, hj, rfl⟩
  · exact out (Or.inl h)
  · exact out (Or.inr h)
  by_cases ho : ch_ok v2
  · have hX : ∀ post : Int32 → SX → Prop, ((xg = 0 → wpX_kindOf (fun r_6 => (((r_6 = 1 → (wpX_isEndRow (fun r_31 => (((r_31 = 0 → (wX_put_47 post (nI j) v2 xg xm xh xr b xp xq xt xv xk xz)) ∧ (¬ r_31 = 0 → (post (-4) (xg, xm, xh, xr, b, xp, xq, xt, xv, xk, xz)))))) (nI j))) ∧ (¬ r_6 = 1 → (wX_put_47 post (nI j) v2 xg xm xh xr b xp xq xt xv xk xz))))) v2) ∧ (¬ xg = 0 → post (-3) (xg, xm, xh, xr, b, xp, xq, xt, xv, xk, xz))) → wpX_put post (xg, xm, xh, xr, b, xp, xq, xt, xv, xk, xz) (nI j) v2 := by
      intro post h
      unfold wpX_put
      dsimp only
      refine cx_sq_in hj ?_
      refine br_f (by decide) ?_
      exact cx_ipn (fun _ => br_f (by decide) h) (fun q => absurd ho q)
    have hY : ∀ post : Int32 → SY → Prop, ((xg = 0 → (wpY_kind (fun r_22 => (((r_22 = 1 → (¬ (6 : Int32) = 0 ∧ ((((nI j / 6) = 0 → (post (-4) (xg, ym, yh, yl, ya, yb, b, yF, yT, yM, yC, yp, yt, yz))) ∧ (¬ (nI j / 6) = 0 → (¬ (6 : Int32) = 0 ∧ ((((nI j / 6) = 5 → (post (-4) (xg, ym, yh, yl, ya, yb, b, yF, yT, yM, yC, yp, yt, yz))) ∧ (¬ (nI j / 6) = 5 → (wY_put_72 post (nI j) v2 xg ym yh yl ya yb b yF yT yM yC yp yt yz)))))))))) ∧ (¬ r_22 = 1 → (wY_put_72 post (nI j) v2 xg ym yh yl ya yb b yF yT yM yC yp yt yz))))) (xg, ym, yh, yl, ya, yb, b, yF, yT, yM, yC, yp, yt, yz) v2)) ∧ (¬ xg = 0 → (post (-3) (xg, ym, yh, yl, ya, yb, b, yF, yT, yM, yC, yp, yt, yz)))) → wpY_put post (xg, ym, yh, yl, ya, yb, b, yF, yT, yM, yC, yp, yt, yz) (nI j) v2 := by
      intro post h
      unfold wpY_put
      dsimp only
      refine cy_sq_in hj ?_
      refine br_f (by decide) ?_
      exact cy_ipn (fun _ => h) (fun q => absurd ho q)
    rcases I with ⟨xm', xh', xr', b', xp', xq', xt', xv', xk', xz', ym', yh', yl', ya', yb', yF', yT', yM', yC', yp', yt', yz', f1, f2, h1, h2⟩ | ⟨s, h, xr', b', xp', xq', xt', xv', xk', xz', yl', ya', yb', yF', yT', yM', yC', yp', yt', yz', f1, f2, hs, hh, H⟩
    · rw [e1] at f1
      rw [e2] at f2
      have g0 : xg = 0 := congrArg (fun w : SX => w.1) f1
      have gb : b = b' := congrArg (fun w : SX => w.2.2.2.2.1) f1
      subst g0
      subst gb
      have cj : (nI j).toNatClampNeg = j := nI_clamp (by omega)
      have vj : vp_in (nI j) 36 := vp_in_nI hj (by decide)
      rw [e1, e2]
      obtain ⟨r1, r2, -, -⟩ := ch_t_row j hj
      by_cases hpn : ch_kd v2 = 1 ∧ (j < 6 ∨ 30 ≤ j)
      · refine hX _ (br_t rfl (cx_kindOf ho (br_t hpn.1 (cx_isEndRow hj ?_))))
        rw [decide_eq_true hpn.2]
        refine br_f (by decide) (hY _ (br_t rfl (cy_kind (br_t hpn.1 ⟨by decide, ?_⟩))))
        by_cases c6 : j < 6
        · exact br_t (r2.mpr c6) ⟨rfl, ch_R0 h1 h2⟩
        · exact br_f (fun q => c6 (r2.mp q)) ⟨by decide, br_t (r1.mpr (hpn.2.resolve_left c6)) ⟨rfl, ch_R0 h1 h2⟩⟩
      · have h47 : ∀ post : Int32 → SX → Prop, wX_put_47 post (nI j) v2 0 xm xh xr b xp xq xt xv xk xz → wpX_put post (0, xm, xh, xr, b, xp, xq, xt, xv, xk, xz) (nI j) v2 := by
          intro post h
          refine hX _ (br_t rfl (cx_kindOf ho ?_))
          by_cases k1 : ch_kd v2 = 1
          · refine br_t k1 (cx_isEndRow hj ?_)
            rw [decide_eq_false fun q => hpn ⟨k1, q⟩]
            exact br_t rfl h
          · exact br_f k1 h
        have h72 : ∀ post : Int32 → SY → Prop, wY_put_72 post (nI j) v2 0 ym yh yl ya yb b yF yT yM yC yp yt yz → wpY_put post (0, ym, yh, yl, ya, yb, b, yF, yT, yM, yC, yp, yt, yz) (nI j) v2 := by
          intro post h
          refine hY _ (br_t rfl (cy_kind ?_))
          by_cases k1 : ch_kd v2 = 1
          · exact br_t k1 ⟨by decide, br_f (fun q => hpn ⟨k1, Or.inl (r2.mp q)⟩) ⟨by decide, br_f (fun q => hpn ⟨k1, Or.inr (r1.mp q)⟩) h⟩⟩
          · exact br_f k1 h
        have h97 : ∀ post : Int32 → SY → Prop, post (b j) (0, ym, yh, yl, ya, yb, upd b j v2, yF, yT, yM, yC, yp, yt, yz) → wY_put_97 post (nI j) v2 0 ym yh yl ya yb b yF yT yM yC yp yt yz := fun post h => ⟨vj, nm_r (e' := b j) (congrArg b cj) ⟨vj, nm_r (e' := upd b j v2) (by rw [cj]) h⟩⟩
        have rel : (v2 = 0 ∨ ¬ b j = 0 ∨ ch_nz b < 6) → b j = b j ∧ i_Rel (k + 3) (0, xm, xh, xr, upd b j v2, xp, xq, xt, xv, xk, xz) (0, ym, yh, yl, ya, yb, upd b j v2, yF, yT, yM, yC, yp, yt, yz) := fun q => ⟨rfl, ch_R0 (ch_Ok_u h1 ho) (ch_nz_put hj h2 q)⟩
        refine h47 _ ⟨vj, nm_r (e' := b j) (congrArg b cj) ?_⟩
        by_cases z2 : v2 = 0
        · exact br_t z2 ⟨vj, nm_r (e' := upd b j v2) (by rw [cj]) (h72 _ (br_t z2 (h97 _ (rel (Or.inl z2)))))⟩
        · refine br_f z2 ?_
          by_cases zb : b j = 0
          · refine br_t zb (cx_countPieces ?_)
            by_cases z6 : ch_nz b < 6
            · refine br_t (nI_lt (b := 6) z6 (by decide)) ⟨vj, nm_r (e' := upd b j v2) (by rw [cj]) (h72 _ (br_f z2 ⟨vj, br_t ((congrArg b cj).trans zb) (cy_pieces (br_t (nI_lt (b := 6) z6 (by decide)) (h97 _ (rel (Or.inr (Or.inr z6))))))⟩))⟩
            · have n6 : ¬ nI (ch_nz b) < 6 := nI_nlt (b := 6) (by omega) (by omega)
              exact br_f n6 (h72 _ (br_f z2 ⟨vj, br_t ((congrArg b cj).trans zb) (cy_pieces (br_f n6 ⟨rfl, ch_R0 h1 h2⟩))⟩))
          · exact br_f zb ⟨vj, nm_r (e' := upd b j v2) (by rw [cj]) (h72 _ (br_f z2 ⟨vj, br_f (fun q => zb ((congrArg b cj).symm.trans q)) (h97 _ (rel (Or.inr (Or.inl zb))))⟩))⟩
    · have g1 : xg = 1 := congrArg (fun w : SX => w.1) (e1.symm.trans f1)
      have I2 : i_Rel (k + 3) u v := Or.inr ⟨s, h, xr', b', xp', xq', xt', xv', xk', xz', yl', ya', yb', yF', yT', yM', yC', yp', yt', yz', f1, f2, hs, hh, H⟩
      have n0 : ¬ xg = 0 := by rw [g1]; decide
      rw [e1, e2] at I2
      rw [e1, e2]
      exact hX _ (br_f n0 (hY _ (br_f n0 ⟨rfl, I2⟩)))
  · subst e1 e2
    unfold wpX_put
    dsimp only
    refine cx_sq_in hj ?_
    refine br_f (by decide) ?_
    refine cx_ipn (fun q => absurd q ho) (fun _ => ?_)
    refine br_t rfl ?_
    unfold wpY_put
    dsimp only
    refine cy_sq_in hj ?_
    refine br_f (by decide) ?_
    exact cy_ipn (fun q => absurd q ho) (fun _ => ⟨rfl, I⟩)
end
section
/-! clear, begin, stop, undo, pieceAt, turn, check, attackers -/
section
variable {xg xm xh xr : Int32} {b xp xq xt xv xk xz : Nat → Int32}
theorem cx_clr_l {post : Int32 → SX → Prop} {x1 : Int32} (H : post x1 (xg, xm, xh, xr, ch_cp b (fun _ => 0) 36, xp, xq, xt, xv, xk, xz)) : ∀ d j, j + d = 36 → wX_clear_16 post x1 xg xm xh xr (d + 1) (nI j) (ch_cp b (fun _ => 0) j) xp xq xt xv xk xz := by
  intro d
  induction d with
  | zero =>
    intro j hj
    have e : j = 36 := by omega
    subst e
    exact br_t (nI_le (Nat.le_refl 36) (by decide)) H
  | succ d ih =>
    intro j hj
    have cl : (nI j).toNatClampNeg = j := nI_clamp (by omega)
    refine br_f (nI_ge (b := 36) (by omega) (by decide)) ⟨vp_in_nI (by omega) (by decide), nm_r (e' := ch_cp b (fun _ => 0) (j + 1)) ?_ (nm_r (nI_1 j) (ih (j + 1) (by omega)))⟩
    rw [cl]
    exact ch_cp_s b (fun _ => 0) j
theorem cx_und_l {post : Int32 → SX → Prop} {h : Nat} (hh : h ≤ 60) (H : post (nI h) (xg, xm, nI h, xr, ch_cp b (fun i => xp (36 * h + i)) 36, xp, xq, xt, xv, xk, xz)) : ∀ d j, j + d = 36 → wX_undo_41 post xg xm (nI h) xr (d + 1) (nI j) (ch_cp b (fun i => xp (36 * h + i)) j) xp xq xt xv xk xz := by
  intro d
  induction d with
  | zero =>
    intro j hj
    have e : j = 36 := by omega
    subst e
    exact br_t (nI_le (Nat.le_refl 36) (by decide)) H
  | succ d ih =>
    intro j hj
    have cl : (nI j).toNatClampNeg = j := nI_clamp (by omega)
    refine br_f (nI_ge (b := 36) (by omega) (by decide)) ⟨by rw [ch_ix]; exact vp_in_nI (by omega) (by decide), vp_in_nI (by omega) (by decide), nm_r (e' := ch_cp b (fun i => xp (36 * h + i)) (j + 1)) ?_ (nm_r (nI_1 j) (ih (j + 1) (by omega)))⟩
    rw [cl, ch_ix, nI_clamp (by omega)]
    exact ch_cp_s b (fun i => xp (36 * h + i)) j
end
section
variable {yg ym yh yl ya yb : Int32} {b yF yT yM yC yp yt yz : Nat → Int32}
theorem cy_clr_l {post : Int32 → SY → Prop} {x1 : Int32} (H : post x1 (yg, ym, yh, yl, ya, yb, ch_cp b (fun _ => 0) 36, yF, yT, yM, yC, yp, yt, yz)) : ∀ d j, j + d = 36 → wY_clear_16 post x1 yg ym yh yl ya yb (d + 1) (nI j) (ch_cp b (fun _ => 0) j) yF yT yM yC yp yt yz := by
  intro d
  induction d with
  | zero =>
    intro j hj
    have e : j = 36 := by omega
    subst e
    exact br_t (nI_le (Nat.le_refl 36) (by decide)) H
  | succ d ih =>
    intro j hj
    have cl : (nI j).toNatClampNeg = j := nI_clamp (by omega)
    refine br_f (nI_ge (b := 36) (by omega) (by decide)) ⟨vp_in_nI (by omega) (by decide), nm_r (e' := ch_cp b (fun _ => 0) (j + 1)) ?_ (nm_r (nI_1 j) (ih (j + 1) (by omega)))⟩
    rw [cl]
    exact ch_cp_s b (fun _ => 0) j
end
theorem ch_cp0_Ok (b : Nat → Int32) : ch_Ok (ch_cp b (fun _ => 0) 36) := fun i hi => by
  unfold ch_cp
  rw [if_pos hi]
  exact ch_ok_0
theorem ch_cp0_nz (b : Nat → Int32) : ch_nz (ch_cp b (fun _ => 0) 36) ≤ 6 := by
  have h : ch_nz (ch_cp b (fun _ => 0) 36) = 0 := by
    unfold ch_nz
    refine ch_ct_0 fun i hi => ?_
    have e : ch_cp b (fun _ => 0) 36 i = 0 := by unfold ch_cp; rw [if_pos hi]
    rw [e]
    rfl
  omega
theorem i_vc_clear {k : Nat} {u : SX} {v : SY} (I : i_Rel k u v) (hk : k + 3 ≤ 1536) : wpX_clear (fun r u' => wpY_clear (fun r' v' => r' = r ∧ i_Rel (k + 3) u' v') v) u := by
  rcases I with ⟨xm, xh, xr, b, xp, xq, xt, xv, xk, xz, ym, yh, yl, ya, yb, yF, yT, yM, yC, yp, yt, yz, rfl, rfl, h1, h2⟩ | ⟨s, h, xr, b, xp, xq, xt, xv, xk, xz, yl, ya, yb, yF, yT, yM, yC, yp, yt, yz, rfl, rfl, hs, hh, H⟩
  · refine br_t rfl (cx_countPieces ?_)
    have hx := cx_clr_l (xg := 0) (xm := xm) (xh := xh) (xr := xr) (b := b) (xp := xp) (xq := xq) (xt := xt) (xv := xv) (xk := xk) (xz := xz) (x1 := nI (ch_nz b)) (post := fun r u' => wpY_clear (fun r' v' => r' = r ∧ i_Rel (k + 3) u' v') (0, ym, yh, yl, ya, yb, b, yF, yT, yM, yC, yp, yt, yz)) ?_ 36 0 rfl
    · rw [ch_cp_0] at hx
      exact ⟨37, hx⟩
    · refine br_t rfl (cy_pieces ?_)
      have hy := cy_clr_l (yg := 0) (ym := ym) (yh := yh) (yl := yl) (ya := ya) (yb := yb) (b := b) (yF := yF) (yT := yT) (yM := yM) (yC := yC) (yp := yp) (yt := yt) (yz := yz) (x1 := nI (ch_nz b)) (post := fun r' v' => r' = nI (ch_nz b) ∧ i_Rel (k + 3) (0, xm, xh, xr, ch_cp b (fun _ => 0) 36, xp, xq, xt, xv, xk, xz) v') ⟨rfl, ch_R0 (ch_cp0_Ok b) (ch_cp0_nz b)⟩ 36 0 rfl
      rw [ch_cp_0] at hy
      exact ⟨37, hy⟩
  · exact br_f (by decide) (br_f (by decide) ⟨rfl, ch_R1 hs hh H⟩)
theorem i_vc_stop {k : Nat} {u : SX} {v : SY} (I : i_Rel k u v) (hk : k + 3 ≤ 1536) : wpX_stop (fun r u' => wpY_stop (fun r' v' => r' = r ∧ i_Rel (k + 3) u' v') v) u := by
  rcases I with ⟨xm, xh, xr, b, xp, xq, xt, xv, xk, xz, ym, yh, yl, ya, yb, yF, yT, yM, yC, yp, yt, yz, rfl, rfl, h1, h2⟩ | ⟨s, h, xr, b, xp, xq, xt, xv, xk, xz, yl, ya, yb, yF, yT, yM, yC, yp, yt, yz, rfl, rfl, hs, hh, H⟩
  · exact br_t rfl (br_t rfl ⟨rfl, ch_R0 h1 h2⟩)
  · exact br_f (by decide) (br_f (by decide) ⟨rfl, ch_R0 (ch_H_G H).1 (ch_H_G H).2.2⟩)
theorem i_vc_turn {k : Nat} {u : SX} {v : SY} (I : i_Rel k u v) (hk : k + 3 ≤ 1536) : wpX_turn (fun r => wpY_turn (fun r' => r' = r ∧ i_Rel (k + 3) u v) v) u := by
  rcases I with ⟨xm, xh, xr, b, xp, xq, xt, xv, xk, xz, ym, yh, yl, ya, yb, yF, yT, yM, yC, yp, yt, yz, rfl, rfl, h1, h2⟩ | ⟨s, h, xr, b, xp, xq, xt, xv, xk, xz, yl, ya, yb, yF, yT, yM, yC, yp, yt, yz, rfl, rfl, hs, hh, H⟩
  · exact br_t rfl (br_t rfl ⟨rfl, ch_R0 h1 h2⟩)
  · exact br_f (by decide) (br_f (by decide) ⟨rfl, ch_R1 hs hh H⟩)
theorem i_vc_check {k : Nat} {u : SX} {v : SY} (I : i_Rel k u v) (hk : k + 3 ≤ 1536) : wpX_check (fun r => wpY_check (fun r' => r' = r ∧ i_Rel (k + 3) u v) v) u := by
  rcases I with ⟨xm, xh, xr, b, xp, xq, xt, xv, xk, xz, ym, yh, yl, ya, yb, yF, yT, yM, yC, yp, yt, yz, rfl, rfl, h1, h2⟩ | ⟨s, h, xr, b, xp, xq, xt, xv, xk, xz, yl, ya, yb, yF, yT, yM, yC, yp, yt, yz, rfl, rfl, hs, hh, H⟩
  · exact br_t rfl (br_t rfl ⟨rfl, ch_R0 h1 h2⟩)
  · have G := ch_H_G H
    refine br_f (by decide) (cx_inCheck hs G.1 G.2.1 ?_)
    have hy : ∀ post : Int32 → Prop, post (ch_bI (ch_ck b s)) → wpY_check post (1, nI s, nI h, yl, ya, yb, b, yF, yT, yM, yC, yp, yt, yz) := fun post hp => br_f (by decide) (cy_inCheck hs G.1 (ch_rX hp))
    cases hc : ch_ck b s with
    | true => rw [hc] at hy; exact br_f (by decide) (hy _ ⟨rfl, ch_R1 hs hh H⟩)
    | false => rw [hc] at hy; exact br_t rfl (hy _ ⟨rfl, ch_R1 hs hh H⟩)
theorem i_vc_pieceAt {k : Nat} {u : SX} {v : SY} (I : i_Rel k u v) (hk : k + 3 ≤ 1536) (v1 : Int32) : wpX_pieceAt (fun r => wpY_pieceAt (fun r' => r' = r ∧ i_Rel (k + 3) u v) v v1) u v1 := by
  obtain ⟨xg, xm, xh, xr, b, xp, xq, xt, xv, xk, xz, ym, yh, yl, ya, yb, yF, yT, yM, yC, yp, yt, yz, rfl, rfl, hO⟩ := ch_any I
  have out : (v1 < 0 ∨ nI 36 ≤ v1) → wpX_pieceAt (fun r => wpY_pieceAt (fun r' => r' = r ∧ i_Rel (k + 3) (xg, xm, xh, xr, b, xp, xq, xt, xv, xk, xz) (xg, ym, yh, yl, ya, yb, b, yF, yT, yM, yC, yp, yt, yz)) (xg, ym, yh, yl, ya, yb, b, yF, yT, yM, yC, yp, yt, yz) v1) (xg, xm, xh, xr, b, xp, xq, xt, xv, xk, xz) v1 := by
    intro h
    unfold wpX_pieceAt
    dsimp only
    refine cx_sq_out h ?_
    refine br_t rfl ?_
    unfold wpY_pieceAt
    dsimp only
    refine cy_sq_out h ?_
    exact br_t rfl ⟨rfl, I⟩
  rcases pk_ix v1 (n := 36) (by decide) with h | h | ⟨j, hj, rfl⟩
  · exact out (Or.inl h)
  · exact out (Or.inr h)
  · unfold wpX_pieceAt
    dsimp only
    refine cx_sq_in hj ?_
    refine br_f (by decide) ⟨vp_in_nI hj (by decide), ?_⟩
    unfold wpY_pieceAt
    dsimp only
    refine cy_sq_in hj ?_
    exact br_f (by decide) ⟨vp_in_nI hj (by decide), rfl, I⟩
theorem i_vc_attackers {k : Nat} {u : SX} {v : SY} (I : i_Rel k u v) (hk : k + 3 ≤ 1536) (v1 : Int32) (v2 : Int32) : wpX_attackers (fun r => wpY_attackers (fun r' => r' = r ∧ i_Rel (k + 3) u v) v v1 v2) u v1 v2 := by
  obtain ⟨xg, xm, xh, xr, b, xp, xq, xt, xv, xk, xz, ym, yh, yl, ya, yb, yF, yT, yM, yC, yp, yt, yz, rfl, rfl, hO⟩ := ch_any I
  have out : (v1 < 0 ∨ nI 36 ≤ v1) → wpX_attackers (fun r => wpY_attackers (fun r' => r' = r ∧ i_Rel (k + 3) (xg, xm, xh, xr, b, xp, xq, xt, xv, xk, xz) (xg, ym, yh, yl, ya, yb, b, yF, yT, yM, yC, yp, yt, yz)) (xg, ym, yh, yl, ya, yb, b, yF, yT, yM, yC, yp, yt, yz) v1 v2) (xg, xm, xh, xr, b, xp, xq, xt, xv, xk, xz) v1 v2 := by
    intro h
    unfold wpX_attackers
    dsimp only
    refine cx_sq_out h ?_
    refine br_t rfl ?_
    unfold wpY_attackers
    dsimp only
    refine cy_sq_out h ?_
    exact br_t rfl ⟨rfl, I⟩
  rcases pk_ix v1 (n := 36) (by decide) with h | h | ⟨j, hj, rfl⟩
  · exact out (Or.inl h)
  · exact out (Or.inr h)
  · have good : ∀ s, s < 2 → v2 = nI s → wpX_attackers (fun r => wpY_attackers (fun r' => r' = r ∧ i_Rel (k + 3) (xg, xm, xh, xr, b, xp, xq, xt, xv, xk, xz) (xg, ym, yh, yl, ya, yb, b, yF, yT, yM, yC, yp, yt, yz)) (xg, ym, yh, yl, ya, yb, b, yF, yT, yM, yC, yp, yt, yz) (nI j) v2) (xg, xm, xh, xr, b, xp, xq, xt, xv, xk, xz) (nI j) v2 := by
      intro s hs e
      subst e
      unfold wpX_attackers
      dsimp only
      refine cx_sq_in hj ?_
      refine br_f (by decide) ?_
      have hside : ∀ post : Int32 → Prop, post 1 → wpX_isSide post (nI s) := by
        intro post hp
        rcases ch_s2 hs with rfl | rfl
        · exact br_t nI_0 hp
        · exact br_f (by decide) (br_t rfl hp)
      refine hside _ ?_
      refine br_f (by decide) ⟨37, cx_ak_l hs hO hj ?_ 36 0 rfl⟩
      unfold wpY_attackers
      dsimp only
      refine cy_sq_in hj ?_
      refine br_f (by decide) ?_
      have h17 : ∀ post : Int32 → Prop, post (nI (ch_aa b j s)) → wY_attackers_17 post (nI j) (nI s) xg ym yh yl ya yb b yF yT yM yC yp yt yz := fun post hp => cy_attackersOf hs hO hj hp
      rcases ch_s2 hs with e | e
      · subst e; exact br_t nI_0 (h17 _ ⟨rfl, I⟩)
      · subst e; exact br_f (by decide) (br_t rfl (h17 _ ⟨rfl, I⟩))
    by_cases z0 : v2 = 0
    · exact good 0 (by decide) z0
    · by_cases z1 : v2 = 1
      · exact good 1 (by decide) z1
      · unfold wpX_attackers
        dsimp only
        refine cx_sq_in hj ?_
        refine br_f (by decide) (br_f z0 (br_f z1 (br_t rfl ?_)))
        unfold wpY_attackers
        dsimp only
        refine cy_sq_in hj ?_
        exact br_f (by decide) (br_f z0 (br_f z1 ⟨rfl, I⟩))
theorem i_vc_undo {k : Nat} {u : SX} {v : SY} (I : i_Rel k u v) (hk : k + 3 ≤ 1536) : wpX_undo (fun r u' => wpY_undo (fun r' v' => r' = r ∧ i_Rel (k + 3) u' v') v) u := by
  rcases I with ⟨xm, xh, xr, b, xp, xq, xt, xv, xk, xz, ym, yh, yl, ya, yb, yF, yT, yM, yC, yp, yt, yz, rfl, rfl, h1, h2⟩ | ⟨s, h, xr, b, xp, xq, xt, xv, xk, xz, yl, ya, yb, yF, yT, yM, yC, yp, yt, yz, rfl, rfl, hs, hh, H⟩
  · exact br_t rfl (br_t rfl ⟨rfl, ch_R0 h1 h2⟩)
  · refine br_f (by decide) ?_
    by_cases z : h = 0
    · subst z
      exact br_t nI_0 (br_f (by decide) (br_t nI_0 ⟨rfl, ch_R1 hs hh H⟩))
    · obtain ⟨h', rfl⟩ : ∃ h', h = h' + 1 := ⟨h - 1, by omega⟩
      have n0 : ¬ nI (h' + 1) = 0 := nI_ne0 (by omega) (by omega)
      obtain ⟨f, t, hf, ht, eF, eT, H', c1, c2⟩ := ch_H_pop H
      refine br_f n0 (nm_r (nI_pred h') (nm_r (ch_s4 hs) ?_))
      have hx := cx_und_l (xg := 1) (xm := nI (1 - s)) (xr := xr) (b := b) (xp := xp) (xq := xq) (xt := xt) (xv := xv) (xk := xk) (xz := xz) (h := h') (post := fun r u' => wpY_undo (fun r' v' => r' = r ∧ i_Rel (k + 3) u' v') (1, nI s, nI (h' + 1), yl, ya, yb, b, yF, yT, yM, yC, yp, yt, yz)) (by omega) ?_ 36 0 rfl
      · rw [ch_cp_0] at hx
        exact ⟨37, hx⟩
      · rw [ch_cp_36 c1 c2]
        exact br_f (by decide) (br_f n0 (cy_undoMove (ch_s4 hs) hf ht (by omega) eF eT ⟨rfl, ch_R1 (by omega) (by omega) H'⟩))
end
section
/-! begin, move, result, moves, moveAt, mobile -/
theorem ch_st_congr {e e' : Nat → Bool} : ∀ n h, h ≤ n → (∀ k, k ≤ h → e k = e' k) → ch_st e h = ch_st e' h := by
  intro n
  induction n with
  | zero =>
    intro h hh H
    have z : h = 0 := by omega
    subst z
    simp only [ch_st]
    rw [H 0 (Nat.le_refl 0)]
  | succ n ih =>
    intro h hh H
    by_cases z0 : h = 0
    · subst z0; simp only [ch_st]; rw [H 0 (Nat.le_refl 0)]
    · by_cases z1 : h = 1
      · subst z1; simp only [ch_st]; rw [H 1 (Nat.le_refl 1)]
      · obtain ⟨j, rfl⟩ : ∃ j, h = j + 2 := ⟨h - 2, by omega⟩
        simp only [ch_st]
        rw [H (j + 2) (Nat.le_refl _), ih j (by omega) fun k hk => H k (by omega)]
theorem ch_H_st {h : Nat} {b pX q pY F T M C : Nat → Int32} (H : ch_H h b pX q pY F T M C) : ch_st (ch_eq pX b) h = ch_st (ch_eq pY b) h := by
  obtain ⟨B, eB, h1, -⟩ := H
  refine ch_st_congr h h (Nat.le_refl h) fun k hk => ?_
  apply Bool.eq_iff_iff.mpr
  rw [ch_eq_iff, ch_eq_iff]
  have c := (h1 k hk).2.1
  constructor
  · intro z i hi; rw [(c i hi).2, ← (c i hi).1]; exact z i hi
  · intro z i hi; rw [(c i hi).1, ← (c i hi).2]; exact z i hi
theorem ch_H_q {h : Nat} {b pX q pY F T M C : Nat → Int32} (H : ch_H h b pX q pY F T M C) : q h = nI (ch_qt M C h) := by
  obtain ⟨B, eB, h1, -⟩ := H
  exact (h1 h (Nat.le_refl h)).2.2
theorem ch_kp_00 {p b : Nat → Int32} {i : Nat} (hi : i < 36) : ch_kp p b 0 36 i = b i := by
  have h := ch_kp_at (p := p) (b := b) (h := 0) (n := 36) hi
  rw [Nat.mul_zero, Nat.zero_add] at h
  exact h
theorem i_vc_begin {k : Nat} {u : SX} {v : SY} (I : i_Rel k u v) (hk : k + 3 ≤ 1536) (v1 : Int32) : wpX_begin (fun r u' => wpY_begin (fun r' v' => r' = r ∧ i_Rel (k + 3) u' v') v v1) u v1 := by
  rcases I with ⟨xm, xh, xr, b, xp, xq, xt, xv, xk, xz, ym, yh, yl, ya, yb, yF, yT, yM, yC, yp, yt, yz, rfl, rfl, h1, h2⟩ | ⟨s, h, xr, b, xp, xq, xt, xv, xk, xz, yl, ya, yb, yF, yT, yM, yC, yp, yt, yz, rfl, rfl, hs, hh, H⟩
  · have good : ∀ s, s < 2 → v1 = nI s → wpX_begin (fun r u' => wpY_begin (fun r' v' => r' = r ∧ i_Rel (k + 3) u' v') (0, ym, yh, yl, ya, yb, b, yF, yT, yM, yC, yp, yt, yz) v1) (0, xm, xh, xr, b, xp, xq, xt, xv, xk, xz) v1 := by
      intro s hs e
      subst e
      have hside : ∀ post : Int32 → Prop, post 1 → wpX_isSide post (nI s) := by
        intro post hp
        rcases ch_s2 hs with e | e
        · subst e; exact br_t nI_0 hp
        · subst e; exact br_f (by decide) (br_t rfl hp)
      have hY : ∀ post : Int32 → SY → Prop, wY_begin_21 post (nI s) 0 ym yh yl ya yb b yF yT yM yC yp yt yz → wpY_begin post (0, ym, yh, yl, ya, yb, b, yF, yT, yM, yC, yp, yt, yz) (nI s) := by
        intro post hp
        rcases ch_s2 hs with e | e
        · subst e; exact br_t rfl (br_t nI_0 hp)
        · subst e; exact br_t rfl (br_f (by decide) (br_t rfl hp))
      have c0 := ch_ct_le (fun i => decide (b i = ch_kg 0)) 36
      have c1 := ch_ct_le (fun i => decide (b i = ch_kg 1)) 36
      have R0 : ∀ x : Int32, x = x ∧ i_Rel (k + 3) (0, xm, xh, xr, b, xp, xq, xt, xv, xk, xz) (0, ym, yh, yl, ya, yb, b, yF, yT, yM, yC, yp, yt, yz) := fun x => ⟨rfl, ch_R0 h1 h2⟩
      refine br_t rfl ?_
      refine hside _ ?_
      refine br_f (by decide) (cx_countKings (s := 0) (by decide) ?_)
      by_cases k0 : ch_ct (fun i => decide (b i = ch_kg 0)) 36 = 1
      · refine br_t (by rw [k0]; rfl) (cx_countKings (s := 1) (by decide) ?_)
        by_cases k1 : ch_ct (fun i => decide (b i = ch_kg 1)) 36 = 1
        · have hK : ch_K1 b := by
            intro s' hs' i j hi hj ei ej
            rcases ch_s2 hs' with e | e
            · subst e; exact ch_ct_one (p := fun i => decide (b i = ch_kg 0)) (by omega) hi hj (decide_eq_true ei) (decide_eq_true ej)
            · subst e; exact ch_ct_one (p := fun i => decide (b i = ch_kg 1)) (by omega) hi hj (decide_eq_true ei) (decide_eq_true ej)
          refine br_t (by rw [k1]; rfl) ?_
          rw [ch_s4 hs]
          refine cx_inCheck (by omega) h1 hK ?_
          have hY2 : ∀ post : Int32 → SY → Prop, ((ch_bI (ch_ck b (1 - s)) = 0 → wpY_keepBoard (fun u => match u with | (yg, ym, yh, yl, ya, yb, b, yF, yT, yM, yC, yp, yt, yz) => wpY_moves (fun r u => match u with | (yg, ym, yh, yl, ya, yb, b, yF, yT, yM, yC, yp, yt, yz) => post r (yg, ym, yh, yl, ya, yb, b, yF, yT, yM, yC, yp, yt, yz)) (yg, ym, yh, yl, ya, yb, b, yF, yT, yM, yC, yp, yt, yz)) (1, nI s, 0, yl, ya, yb, b, yF, yT, yM, yC, yp, yt, yz)) ∧ (¬ ch_bI (ch_ck b (1 - s)) = 0 → post (-4) (0, ym, yh, yl, ya, yb, b, yF, yT, yM, yC, yp, yt, yz))) → wpY_begin post (0, ym, yh, yl, ya, yb, b, yF, yT, yM, yC, yp, yt, yz) (nI s) := by
            intro post hp
            refine hY post ?_
            unfold wY_begin_21
            refine cy_kings (s := 0) (by decide) ?_
            refine br_t (by rw [k0]; rfl) (cy_kings (s := 1) (by decide) ?_)
            refine br_t (by rw [k1]; rfl) ?_
            rw [ch_s4 hs]
            exact cy_inCheck (by omega) h1 hp
          cases hc : ch_ck b (1 - s) with
          | true =>
            rw [hc] at hY2
            exact br_f (by decide) (hY2 _ (br_f (by decide) (R0 _)))
          | false =>
            rw [hc] at hY2
            refine br_t rfl (nm_e (cx_keepPosition (h := 0) (by omega) (cx_countLegal hs h1 hK (hY2 _ (br_t rfl (cy_keepBoard (h := 0) (by omega) (cy_moves (h := 0) hs h1 (by omega) fun F T M C e => ⟨rfl, ch_R1 (h := 0) hs (by omega) (ch_H_0 ⟨h1, hK, h2⟩ (fun i hi => ch_kp_00 hi) (fun i hi => ch_kp_00 hi) pk_us)⟩)))))))
        · have n1 : ¬ nI (ch_ct (fun i => decide (b i = ch_kg 1)) 36) = 1 := fun z => k1 ((nI_eq (b := 1) (by omega) (by decide)).mp z)
          refine br_f n1 (hY _ ?_)
          unfold wY_begin_21
          refine cy_kings (s := 0) (by decide) ?_
          refine br_t (by rw [k0]; rfl) (cy_kings (s := 1) (by decide) ?_)
          exact br_f n1 (R0 _)
      · have n0 : ¬ nI (ch_ct (fun i => decide (b i = ch_kg 0)) 36) = 1 := fun z => k0 ((nI_eq (b := 1) (by omega) (by decide)).mp z)
        refine br_f n0 (hY _ ?_)
        unfold wY_begin_21
        refine cy_kings (s := 0) (by decide) ?_
        exact br_f n0 (R0 _)
    by_cases z0 : v1 = 0
    · exact good 0 (by decide) z0
    · by_cases z1 : v1 = 1
      · exact good 1 (by decide) z1
      · exact br_t rfl (br_f z0 (br_f z1 (br_t rfl (br_t rfl (br_f z0 (br_f z1 ⟨rfl, ch_R0 h1 h2⟩))))))
  · exact br_f (by decide) (br_f (by decide) ⟨rfl, ch_R1 hs hh H⟩)
theorem i_vc_result {k : Nat} {u : SX} {v : SY} (I : i_Rel k u v) (hk : k + 3 ≤ 1536) : wpX_result (fun r u' => wpY_result (fun r' v' => r' = r ∧ i_Rel (k + 3) u' v') v) u := by
  rcases I with ⟨xm, xh, xr, b, xp, xq, xt, xv, xk, xz, ym, yh, yl, ya, yb, yF, yT, yM, yC, yp, yt, yz, rfl, rfl, h1, h2⟩ | ⟨s, h, xr, b, xp, xq, xt, xv, xk, xz, yl, ya, yb, yF, yT, yM, yC, yp, yt, yz, rfl, rfl, hs, hh, H⟩
  · exact br_t rfl (br_t rfl ⟨rfl, ch_R0 h1 h2⟩)
  · have G := ch_H_G H
    have hq := ch_qt_le yM yC h
    refine br_f (by decide) (cx_way hs G.1 G.2.1 hh (by omega) (ch_H_q H) ?_)
    rw [ch_H_st H]
    exact cy_result hs G.1 hh fun F T M C e => ⟨rfl, ch_R1 hs hh (ch_H_keep H e)⟩
theorem i_vc_moves {k : Nat} {u : SX} {v : SY} (I : i_Rel k u v) (hk : k + 3 ≤ 1536) : wpX_moves (fun r u' => wpY_moves (fun r' v' => r' = r ∧ i_Rel (k + 3) u' v') v) u := by
  rcases I with ⟨xm, xh, xr, b, xp, xq, xt, xv, xk, xz, ym, yh, yl, ya, yb, yF, yT, yM, yC, yp, yt, yz, rfl, rfl, h1, h2⟩ | ⟨s, h, xr, b, xp, xq, xt, xv, xk, xz, yl, ya, yb, yF, yT, yM, yC, yp, yt, yz, rfl, rfl, hs, hh, H⟩
  · exact br_t rfl (br_t rfl ⟨rfl, ch_R0 h1 h2⟩)
  · have G := ch_H_G H
    exact br_f (by decide) (cx_countLegal hs G.1 G.2.1 (cy_moves hs G.1 (by omega) fun F T M C e => ⟨rfl, ch_R1 hs hh (ch_H_keep H e)⟩))
theorem i_vc_moveAt {k : Nat} {u : SX} {v : SY} (I : i_Rel k u v) (hk : k + 3 ≤ 1536) (v1 : Int32) : wpX_moveAt (fun r u' => wpY_moveAt (fun r' v' => r' = r ∧ i_Rel (k + 3) u' v') v v1) u v1 := by
  rcases I with ⟨xm, xh, xr, b, xp, xq, xt, xv, xk, xz, ym, yh, yl, ya, yb, yF, yT, yM, yC, yp, yt, yz, rfl, rfl, h1, h2⟩ | ⟨s, h, xr, b, xp, xq, xt, xv, xk, xz, yl, ya, yb, yF, yT, yM, yC, yp, yt, yz, rfl, rfl, hs, hh, H⟩
  · exact br_t rfl (br_t rfl ⟨rfl, ch_R0 h1 h2⟩)
  · have G := ch_H_G H
    refine br_f (by decide) ?_
    by_cases z : v1 < 0
    · refine br_f (Int32.not_le.mpr z) (br_f (by decide) ⟨1, br_f (by decide) (br_t z ⟨rfl, ch_R1 hs hh H⟩)⟩)
    · obtain ⟨j, hj, rfl⟩ := nI_of z
      have hl := ch_L_le b s
      refine br_t (Int32.not_lt.mp z) (cx_nl_0 hs G.1 G.2.1 ⟨1297, cx_ma_l hs G.1 G.2.1 hj (ch_L b s) 0 0 1297 rfl (by omega) (by omega) ?_⟩)
      rw [Nat.sub_zero]
      exact br_f (by decide) ⟨1297, cy_ma_l z hs G.1 (by omega) 1296 0 j yF yT yM yC (by omega) hj fun F T M C e => ⟨rfl, ch_R1 hs hh (ch_H_keep H e)⟩⟩
theorem i_vc_mobile {k : Nat} {u : SX} {v : SY} (I : i_Rel k u v) (hk : k + 3 ≤ 1536) (v1 : Int32) : wpX_mobile (fun r u' => wpY_mobile (fun r' v' => r' = r ∧ i_Rel (k + 3) u' v') v v1) u v1 := by
  rcases I with ⟨xm, xh, xr, b, xp, xq, xt, xv, xk, xz, ym, yh, yl, ya, yb, yF, yT, yM, yC, yp, yt, yz, rfl, rfl, h1, h2⟩ | ⟨s, h, xr, b, xp, xq, xt, xv, xk, xz, yl, ya, yb, yF, yT, yM, yC, yp, yt, yz, rfl, rfl, hs, hh, H⟩
  · exact br_t rfl (br_t rfl ⟨rfl, ch_R0 h1 h2⟩)
  · have G := ch_H_G H
    refine br_f (by decide) ?_
    rcases pk_ix v1 (n := 36) (by decide) with hv | hv | ⟨j, hj, rfl⟩
    · exact cx_sq_out (Or.inl hv) (br_t rfl (br_f (by decide) ⟨1, br_f (by decide) (cy_sq_out (Or.inl hv) (br_t rfl ⟨rfl, ch_R1 hs hh H⟩))⟩))
    · exact cx_sq_out (Or.inr hv) (br_t rfl (br_f (by decide) ⟨1, br_f (by decide) (cy_sq_out (Or.inr hv) (br_t rfl ⟨rfl, ch_R1 hs hh H⟩))⟩))
    · refine cx_sq_in hj ?_
      refine br_f (by decide) (cx_nextLegal (f0 := j) (t0 := 0) hs G.1 G.2.1 ?_ hj (by omega) ⟨37, ?_⟩)
      · rw [Int32.sub_add_cancel, pk_shlN ((6 : Int32) &&& 31) 6 (by decide) (by omega)]
        exact congrArg nI (by omega)
      · refine cx_mo_l hs G.1 G.2.1 hj ?_ 36 0 (36 * j + 0) (by omega) (by omega) (by omega) (by rw [Nat.add_zero, Nat.sub_self]; rfl)
        exact br_f (by decide) ⟨37, cy_mo_l hs G.1 hj (by omega) 36 0 yF yT yM yC (by omega) fun F T M C e => ⟨rfl, ch_R1 hs hh (ch_H_keep H e)⟩⟩
end
section
/-! move -/
theorem ch_ov_0 {b : Nat → Int32} {s h st q : Nat} (h0 : ch_ov b s h st q = 0) : h < 60 := by
  unfold ch_ov at h0
  split at h0
  · split at h0 <;> exact absurd h0 (by decide)
  · split at h0
    · exact absurd h0 (by decide)
    · split at h0
      · exact absurd h0 (by decide)
      · split at h0
        · exact absurd h0 (by decide)
        · omega
theorem ch_Rel_push {k s h f t : Nat} {xr : Int32} {b xp xq xt xv xk xz : Nat → Int32} {yl ya yb : Int32} {yF yT yM yC yp yt yz xq' : Nat → Int32} (hs : s < 2) (hh : h < 60) (H : ch_H h b xp xq yp yF yT yM yC) (hf : f < 36) (ht : t < 36) (hc : ch_cg b s f t = true)
    (q1 : ∀ k, k ≤ h → xq' k = xq k) (q2 : xq' (h + 1) = if b t = 0 ∧ ¬ ch_kd (b f) = 1 then xq h + 1 else 0) :
    i_Rel k (1, nI (1 - s), nI (h + 1), xr, ch_pl b s f t, ch_kp xp (ch_pl b s f t) (h + 1) 36, xq', xt, xv, xk, xz) (1, nI (1 - s), nI (h + 1), yl, ya, yb, ch_pl b s f t, upd yF h (nI f), upd yT h (nI t), upd yM h (b f), upd yC h (b t), ch_kp yp (ch_pl b s f t) (h + 1) 36, yt, yz) :=
  ch_R1 (by omega) (by omega) (ch_H_push H hf ht hc (fun i hi => ch_kp_lo hi) (fun i hi => ch_kp_at hi) (fun i hi => ch_kp_lo hi) (fun i hi => ch_kp_at hi) q1 q2)
section
variable {xr : Int32} {b xp xq xt xv xk xz : Nat → Int32}
/-- the rest of move, once the move is made on the board -/
theorem cx_mv_end {post : Int32 → SX → Prop} {s h : Nat} {c : Int32} (hh : h < 60) (z0 : Int32) (H : ∀ xq', (∀ k, k ≤ h → xq' k = xq k) → xq' (h + 1) = z0 → post (xk 0) (1, nI (1 - s), nI (h + 1), xr, b, ch_kp xp b (h + 1) 36, xq', xt, xv, xk, xz)) : wX_move_103 post z0 (nI h + 1) 1 (nI (1 - s)) (nI h) xr b xp xq xt xv xk xz := by
  have c1 : (nI (h + 1)).toNatClampNeg = h + 1 := nI_clamp (by omega)
  have e1 : nI h + 1 = nI (h + 1) := nI_1 h
  refine ⟨by rw [e1]; exact vp_in_nI (by omega) (by decide), nm_r (e' := upd xq (h + 1) z0) (by rw [e1, c1]) (nm_r (nI_1 h) (cx_keepPosition (h := h + 1) (by omega) (H _ (fun k hk => pk_un (by omega)) pk_us)))⟩
end
theorem i_vc_move {k : Nat} {u : SX} {v : SY} (I : i_Rel k u v) (hk : k + 3 ≤ 1536) (v1 : Int32) (v2 : Int32) : wpX_move (fun r u' => wpY_move (fun r' v' => r' = r ∧ i_Rel (k + 3) u' v') v v1 v2) u v1 v2 := by
  rcases I with ⟨xm, xh, xr, b, xp, xq, xt, xv, xk, xz, ym, yh, yl, ya, yb, yF, yT, yM, yC, yp, yt, yz, rfl, rfl, h1, h2⟩ | ⟨s, h, xr, b, xp, xq, xt, xv, xk, xz, yl, ya, yb, yF, yT, yM, yC, yp, yt, yz, rfl, rfl, hs, hh, H⟩
  · exact br_t rfl (br_t rfl ⟨rfl, ch_R0 h1 h2⟩)
  · have G := ch_H_G H
    have hq := ch_qt_le yM yC h
    refine br_f (by decide) (cx_way hs G.1 G.2.1 hh (by omega) (ch_H_q H) ?_)
    rw [ch_H_st H]
    have hY : ∀ post : Int32 → SY → Prop, (∀ F T M C, ch_e4 h yF yT yM yC F T M C → ((ch_ov b s h (ch_st (ch_eq yp b) h) (ch_qt yM yC h) = 0 → wpY_isSquare (fun r_18 => (((r_18 = 0 → (post (-3) (1, nI s, nI h, yl, ya, yb, b, F, T, M, C, yp, yt, yz))) ∧ (¬ r_18 = 0 → (wpY_isSquare (fun r_34 => (((r_34 = 0 → (post (-3) (1, nI s, nI h, yl, ya, yb, b, F, T, M, C, yp, yt, yz))) ∧ (¬ r_34 = 0 → (wpY_isLegal (fun r_50 u => match u with | (yg, ym, yh, yl, ya, yb, b, yF, yT, yM, yC, yp, yt, yz) => (((r_50 = 0 → (post (-3) (yg, ym, yh, yl, ya, yb, b, yF, yT, yM, yC, yp, yt, yz))) ∧ (¬ r_50 = 0 → (wpY_doMove (fun u => match u with | (yg, ym, yh, yl, ya, yb, b, yF, yT, yM, yC, yp, yt, yz) => (wpY_keepBoard (fun u => match u with | (yg, ym, yh, yl, ya, yb, b, yF, yT, yM, yC, yp, yt, yz) => (vp_in (yh - 1) 70 ∧ (post (yC (yh - 1).toNatClampNeg) (yg, ym, yh, yl, ya, yb, b, yF, yT, yM, yC, yp, yt, yz)))) (yg, ym, yh, yl, ya, yb, b, yF, yT, yM, yC, yp, yt, yz))) (yg, ym, yh, yl, ya, yb, b, yF, yT, yM, yC, yp, yt, yz) v1 v2))))) (1, nI s, nI h, yl, ya, yb, b, F, T, M, C, yp, yt, yz) v1 v2))))) (1, nI s, nI h, yl, ya, yb, b, F, T, M, C, yp, yt, yz) v2))))) (1, nI s, nI h, yl, ya, yb, b, F, T, M, C, yp, yt, yz) v1) ∧ (¬ ch_ov b s h (ch_st (ch_eq yp b) h) (ch_qt yM yC h) = 0 → post (-2) (1, nI s, nI h, yl, ya, yb, b, F, T, M, C, yp, yt, yz)))) → wpY_move post (1, nI s, nI h, yl, ya, yb, b, yF, yT, yM, yC, yp, yt, yz) v1 v2 := by
      intro post hp
      refine br_f (by decide) (cy_result hs G.1 hh fun F T M C e => ?_)
      exact hp F T M C e
    by_cases ho : ch_ov b s h (ch_st (ch_eq yp b) h) (ch_qt yM yC h) = 0
    · refine br_t ho ?_
      have h60 := ch_ov_0 ho
      have outX : ∀ post : Int32 → SX → Prop, ((v1 < 0 ∨ nI 36 ≤ v1) ∨ (v2 < 0 ∨ nI 36 ≤ v2)) → post 0 (1, nI s, nI h, xr, b, xp, xq, xt, xv, xk, xz) → wpX_isLegal post (1, nI s, nI h, xr, b, xp, xq, xt, xv, xk, xz) v1 v2 := by
        intro post hv hp
        unfold wpX_isLegal
        dsimp only
        rcases pk_ix v1 (n := 36) (by decide) with q | q | ⟨j, hj, e⟩
        · exact cx_sq_out (Or.inl q) (br_t rfl hp)
        · exact cx_sq_out (Or.inr q) (br_t rfl hp)
        · subst e
          refine cx_sq_in hj ?_
          refine br_f (by decide) ?_
          have hv2 : v2 < 0 ∨ nI 36 ≤ v2 := by
            rcases hv with hv | hv
            · rcases hv with hv | hv
              · exact absurd hv (nI_pos (by omega))
              · exact absurd hv (nI_ge hj (by decide))
            · exact hv
          exact cx_sq_out hv2 (br_t rfl hp)
      have outY : ∀ post : Int32 → SY → Prop, ((v1 < 0 ∨ nI 36 ≤ v1) ∨ (v2 < 0 ∨ nI 36 ≤ v2)) → (∀ F T M C, ch_e4 h yF yT yM yC F T M C → post (-3) (1, nI s, nI h, yl, ya, yb, b, F, T, M, C, yp, yt, yz)) → wpY_move post (1, nI s, nI h, yl, ya, yb, b, yF, yT, yM, yC, yp, yt, yz) v1 v2 := by
        intro post hv hp
        refine hY post fun F T M C e => br_t ho ?_
        rcases pk_ix v1 (n := 36) (by decide) with q | q | ⟨j, hj, e'⟩
        · exact cy_sq_out (Or.inl q) (br_t rfl (hp F T M C e))
        · exact cy_sq_out (Or.inr q) (br_t rfl (hp F T M C e))
        · subst e'
          refine cy_sq_in hj ?_
          refine br_f (by decide) ?_
          have hv2 : v2 < 0 ∨ nI 36 ≤ v2 := by
            rcases hv with hv | hv
            · rcases hv with hv | hv
              · exact absurd hv (nI_pos (by omega))
              · exact absurd hv (nI_ge hj (by decide))
            · exact hv
          exact cy_sq_out hv2 (br_t rfl (hp F T M C e))
      have R3 : ∀ F T M C, ch_e4 h yF yT yM yC F T M C → (-3 : Int32) = -3 ∧ i_Rel (k + 3) (1, nI s, nI h, xr, b, xp, xq, xt, xv, xk, xz) (1, nI s, nI h, yl, ya, yb, b, F, T, M, C, yp, yt, yz) := fun F T M C e => ⟨rfl, ch_R1 hs hh (ch_H_keep H e)⟩
      rcases pk_ix v1 (n := 36) (by decide) with q | q | ⟨f, hf, e1⟩
      · exact outX _ (Or.inl (Or.inl q)) (br_t rfl (outY _ (Or.inl (Or.inl q)) R3))
      · exact outX _ (Or.inl (Or.inr q)) (br_t rfl (outY _ (Or.inl (Or.inr q)) R3))
      rcases pk_ix v2 (n := 36) (by decide) with q | q | ⟨t, ht, e2⟩
      · exact outX _ (Or.inr (Or.inl q)) (br_t rfl (outY _ (Or.inr (Or.inl q)) R3))
      · exact outX _ (Or.inr (Or.inr q)) (br_t rfl (outY _ (Or.inr (Or.inr q)) R3))
      subst e1 e2
      refine cx_isLegal hs G.1 G.2.1 hf ht ?_
      cases hl : ch_lp b s f t with
      | false =>
        refine br_t rfl (hY _ fun F T M C e => br_t ho (cy_sq_in hf (br_f (by decide) (cy_sq_in ht (br_f (by decide) (cy_isLegal hs G.1 hf ht (by omega) fun F' T' M' C' e' => ?_))))))
        rw [hl]
        exact br_t rfl (R3 F' T' M' C' (ch_e4_t e e'))
      | true =>
        have hc := ch_lp_cg hl
        have hp : 36 * f + t < 1296 := by omega
        have pf : (36 * f + t) / 36 = f := by omega
        have pt : (36 * f + t) % 36 = t := by omega
        have e0 : (nI f <<< ((6 : Int32) &&& 31)) + nI t = nI (ch_nm (36 * f + t)) := by
          rw [pk_shlN ((6 : Int32) &&& 31) 6 (by decide) (by omega), nI_add]
          unfold ch_nm
          exact congrArg nI (by omega)
        have epp : ch_pp b s (36 * f + t) = ch_pl b s f t := by unfold ch_pp; rw [pf, pt]
        have hYm : ∀ (xt' xv' : Nat → Int32) (r : Int32) (xq' xk' : Nat → Int32), r = b t → (∀ k, k ≤ h → xq' k = xq k) → xq' (h + 1) = (if b t = 0 ∧ ¬ ch_kd (b f) = 1 then xq h + 1 else 0) → wpY_move (fun r' v' => r' = r ∧ i_Rel (k + 3) (1, nI (1 - s), nI (h + 1), xr, ch_pl b s f t, ch_kp xp (ch_pl b s f t) (h + 1) 36, xq', xt', xv', xk', xz) v') (1, nI s, nI h, yl, ya, yb, b, yF, yT, yM, yC, yp, yt, yz) (nI f) (nI t) := by
          intro xt' xv' r xq' xk' er q1 q2
          refine hY _ fun F T M C e => br_t ho (cy_sq_in hf (br_f (by decide) (cy_sq_in ht (br_f (by decide) (cy_isLegal hs G.1 hf ht (by omega) fun F' T' M' C' e' => ?_)))))
          rw [hl]
          refine br_f (by decide) (cy_doMove hs G.1 hf ht (by omega) hc (cy_keepBoard (h := h + 1) (by omega) ?_))
          refine ⟨?_, ?_, ?_⟩
          · rw [nI_pred]; exact vp_in_nI (by omega) (by decide)
          · rw [nI_pred, nI_clamp (by omega), pk_us, er]
          · exact ch_Rel_push hs h60 (ch_H_keep H (ch_e4_t e e')) hf ht hc q1 q2
        refine br_f (by decide) (nm_r e0 (cx_play (L := 0) hs G.1 hp (by omega) ?_))
        rw [epp, pf, pt]
        have eT : upd xk 0 (b t) 0 = b t := pk_us
        have eM : upd xv 0 (b f) 0 = b f := pk_us
        have h70 : ¬ (b t = 0 ∧ ¬ ch_kd (b f) = 1) → wX_move_70 (fun r u' => wpY_move (fun r' v' => r' = r ∧ i_Rel (k + 3) u' v') (1, nI s, nI h, yl, ya, yb, b, yF, yT, yM, yC, yp, yt, yz) (nI f) (nI t)) 1 (nI (1 - s)) (nI h) xr (ch_pl b s f t) xp xq (upd xt 0 (nI (ch_nm (36 * f + t)))) (upd xv 0 (b f)) (upd xk 0 (b t)) xz := by
          intro hn
          refine br_t rfl (cx_mv_end (c := 0) h60 0 fun xq' q1 q2 => ?_)
          exact hYm _ _ _ xq' _ eT q1 (by rw [q2, if_neg hn])
        by_cases z : b t = 0
        · refine br_t (eT.trans z) ?_
          rw [eM]
          refine cx_kindOf (G.1 f hf) ?_
          by_cases k1 : ch_kd (b f) = 1
          · exact br_t k1 (h70 fun w => w.2 k1)
          · refine br_f k1 (br_f (by decide) ⟨vp_in_nI (by omega) (by decide), ?_⟩)
            rw [nI_clamp (by omega)]
            refine cx_mv_end (c := 0) h60 (xq h + 1) fun xq' q1 q2 => ?_
            exact hYm _ _ _ xq' _ eT q1 (by rw [q2, if_pos ⟨z, k1⟩])
        · exact br_f (fun w => z (eT.symm.trans w)) (h70 fun w => z w.1)
    · refine br_f ho (hY _ fun F T M C e => br_f ho ⟨rfl, ch_R1 hs hh (ch_H_keep H e)⟩)
end
section
/-! count, value, best, mate -/
theorem i_vc_count {k : Nat} {u : SX} {v : SY} (I : i_Rel k u v) (hk : k + 3 ≤ 1536) (v1 : Int32) : wpX_count (fun r u' => wpY_count (fun r' v' => r' = r ∧ i_Rel (k + 3) u' v') v v1) u v1 := by
  rcases I with ⟨xm, xh, xr, b, xp, xq, xt, xv, xk, xz, ym, yh, yl, ya, yb, yF, yT, yM, yC, yp, yt, yz, rfl, rfl, h1, h2⟩ | ⟨s, h, xr, b, xp, xq, xt, xv, xk, xz, yl, ya, yb, yF, yT, yM, yC, yp, yt, yz, rfl, rfl, hs, hh, H⟩
  · exact br_t rfl (br_t rfl ⟨rfl, ch_R0 h1 h2⟩)
  · have G := ch_H_G H
    by_cases n0 : v1 < 0
    · exact br_f (by decide) (br_t n0 (br_f (by decide) (br_t n0 ⟨rfl, ch_R1 hs hh H⟩)))
    · by_cases n3 : v1 ≤ 3
      · obtain ⟨D, hD, rfl⟩ := nI_of2 (M := 3) (n := 3) (by decide) n0 n3
        refine br_f (by decide) (br_f n0 (br_t n3 ?_))
        cases D with
        | zero => exact br_t nI_0 (br_f (by decide) (br_f n0 (br_t n3 (cy_search hD hs G.1 G.2.2 hh fun F T M C yt' yz' e => ⟨rfl, ch_R1 hs hh (ch_H_keep H e)⟩))))
        | succ d => exact br_f (nI_ne0 (by omega) (by omega)) (cx_countRows (by omega) hs G.1 G.2.1 G.2.2 fun xt' xv' xk' => br_f (by decide) (br_f n0 (br_t n3 (cy_search hD hs G.1 G.2.2 hh fun F T M C yt' yz' e => ⟨rfl, ch_R1 hs hh (ch_H_keep H e)⟩))))
      · exact br_f (by decide) (br_f n0 (br_f n3 (br_f (by decide) (br_f n0 (br_f n3 ⟨rfl, ch_R1 hs hh H⟩)))))
theorem i_vc_value {k : Nat} {u : SX} {v : SY} (I : i_Rel k u v) (hk : k + 3 ≤ 1536) (v1 : Int32) : wpX_value (fun r u' => wpY_value (fun r' v' => r' = r ∧ i_Rel (k + 3) u' v') v v1) u v1 := by
  rcases I with ⟨xm, xh, xr, b, xp, xq, xt, xv, xk, xz, ym, yh, yl, ya, yb, yF, yT, yM, yC, yp, yt, yz, rfl, rfl, h1, h2⟩ | ⟨s, h, xr, b, xp, xq, xt, xv, xk, xz, yl, ya, yb, yF, yT, yM, yC, yp, yt, yz, rfl, rfl, hs, hh, H⟩
  · exact br_t rfl (br_t rfl ⟨rfl, ch_R0 h1 h2⟩)
  · have G := ch_H_G H
    by_cases n0 : v1 < 0
    · exact br_f (by decide) (br_t n0 (br_f (by decide) (br_t n0 ⟨rfl, ch_R1 hs hh H⟩)))
    · by_cases n3 : v1 ≤ 3
      · obtain ⟨D, hD, rfl⟩ := nI_of2 (M := 3) (n := 3) (by decide) n0 n3
        exact br_f (by decide) (br_f n0 (br_t n3 (cx_lookAhead hD hs G.1 G.2.1 G.2.2 fun xt' xv' xk' xz' => br_f (by decide) (br_f n0 (br_t n3 (cy_search hD hs G.1 G.2.2 hh fun F T M C yt' yz' e => ⟨rfl, ch_R1 hs hh (ch_H_keep H e)⟩))))))
      · exact br_f (by decide) (br_f n0 (br_f n3 (br_f (by decide) (br_f n0 (br_f n3 ⟨rfl, ch_R1 hs hh H⟩)))))
theorem ch_lt1 {x : Int32} (h : ¬ x < 1) : ¬ x < 0 := fun q => h (Int32.lt_trans q (by decide))
theorem i_vc_best {k : Nat} {u : SX} {v : SY} (I : i_Rel k u v) (hk : k + 3 ≤ 1536) (v1 : Int32) : wpX_best (fun r u' => wpY_best (fun r' v' => r' = r ∧ i_Rel (k + 3) u' v') v v1) u v1 := by
  rcases I with ⟨xm, xh, xr, b, xp, xq, xt, xv, xk, xz, ym, yh, yl, ya, yb, yF, yT, yM, yC, yp, yt, yz, rfl, rfl, h1, h2⟩ | ⟨s, h, xr, b, xp, xq, xt, xv, xk, xz, yl, ya, yb, yF, yT, yM, yC, yp, yt, yz, rfl, rfl, hs, hh, H⟩
  · exact br_t rfl (br_t rfl ⟨rfl, ch_R0 h1 h2⟩)
  · have G := ch_H_G H
    by_cases n1 : v1 < 1
    · exact br_f (by decide) (br_t n1 (br_f (by decide) (br_t n1 ⟨rfl, ch_R1 hs hh H⟩)))
    · by_cases n3 : v1 ≤ 3
      · obtain ⟨D, hD, rfl⟩ := nI_of2 (M := 3) (n := 3) (by decide) (ch_lt1 n1) n3
        obtain ⟨d, rfl⟩ : ∃ d, D = d + 1 := by
          cases D with
          | zero => exact absurd (show nI 0 < 1 by decide) n1
          | succ d => exact ⟨d, rfl⟩
        refine br_f (by decide) (br_f n1 (br_t n3 (cx_lookAhead hD hs G.1 G.2.1 G.2.2 fun xt' xv' xk' xz' => ?_)))
        have eb := ch_best (d := d) (by omega) b s
        have hY : ∀ r : Int32, r = ch_be (d + 1) b s → wpY_best (fun r' v' => r' = r ∧ i_Rel (k + 3) (1, nI s, nI h, ch_bR (d + 1) b s, b, xp, xq, xt', xv', xk', xz') v') (1, nI s, nI h, yl, ya, yb, b, yF, yT, yM, yC, yp, yt, yz) (nI (d + 1)) := by
          intro r er
          exact br_f (by decide) (br_f n1 (br_t n3 (cy_search hD hs G.1 G.2.2 hh fun F T M C yt' yz' e => ⟨er.symm, ch_R1 hs hh (ch_H_keep H e)⟩)))
        by_cases z : ch_bR (d + 1) b s = -1
        · rw [if_pos z] at eb
          exact br_t z (hY _ eb)
        · rw [if_neg z] at eb
          exact br_f z (hY _ eb)
      · exact br_f (by decide) (br_f n1 (br_f n3 (br_f (by decide) (br_f n1 (br_f n3 ⟨rfl, ch_R1 hs hh H⟩)))))
theorem i_vc_mate {k : Nat} {u : SX} {v : SY} (I : i_Rel k u v) (hk : k + 3 ≤ 1536) (v1 : Int32) : wpX_mate (fun r u' => wpY_mate (fun r' v' => r' = r ∧ i_Rel (k + 3) u' v') v v1) u v1 := by
  rcases I with ⟨xm, xh, xr, b, xp, xq, xt, xv, xk, xz, ym, yh, yl, ya, yb, yF, yT, yM, yC, yp, yt, yz, rfl, rfl, h1, h2⟩ | ⟨s, h, xr, b, xp, xq, xt, xv, xk, xz, yl, ya, yb, yF, yT, yM, yC, yp, yt, yz, rfl, rfl, hs, hh, H⟩
  · exact br_t rfl (br_t rfl ⟨rfl, ch_R0 h1 h2⟩)
  · have G := ch_H_G H
    by_cases z1 : v1 = 1
    · subst z1
      refine br_f (by decide) (br_f (by decide) (br_t (by decide) ?_))
      have e : (2 * (1 : Int32)) - 1 = nI 1 := by decide
      rw [e]
      refine cx_mate1 hs G.1 G.2.1 G.2.2 fun xt' xv' xk' => ?_
      have hY : ∀ r : Int32, r = ch_bI (ch_cm b s) → wpY_mate (fun r' v' => r' = r ∧ i_Rel (k + 3) (1, nI s, nI h, xr, b, xp, xq, xt', xv', xk', xz) v') (1, nI s, nI h, yl, ya, yb, b, yF, yT, yM, yC, yp, yt, yz) 1 := fun r er => br_f (by decide) (br_t rfl (cy_mate1 hs G.1 hh fun F T M C e => ⟨er.symm, ch_R1 hs hh (ch_H_keep H e)⟩))
      cases hc : ch_cm b s with
      | true => rw [hc] at hY; exact br_f (by decide) (hY 1 rfl)
      | false => rw [hc] at hY; exact br_t rfl (hY 0 rfl)
    · by_cases z2 : v1 = 2
      · subst z2
        refine br_f (by decide) (br_f (by decide) (br_t (by decide) ?_))
        have e : (2 * (2 : Int32)) - 1 = nI 3 := by decide
        rw [e]
        refine cx_mate2 hs G.1 G.2.1 G.2.2 fun xt' xv' xk' => ?_
        have hY : ∀ r : Int32, r = ch_bI (ch_m2 b s) → wpY_mate (fun r' v' => r' = r ∧ i_Rel (k + 3) (1, nI s, nI h, xr, b, xp, xq, xt', xv', xk', xz) v') (1, nI s, nI h, yl, ya, yb, b, yF, yT, yM, yC, yp, yt, yz) 2 := fun r er => br_f (by decide) (br_f (by decide) (br_t rfl (cy_mate2 hs G.1 hh fun F T M C e => ⟨er.symm, ch_R1 hs hh (ch_H_keep H e)⟩)))
        cases hc : ch_m2 b s with
        | true => rw [hc] at hY; exact br_f (by decide) (hY 1 rfl)
        | false => rw [hc] at hY; exact br_t rfl (hY 0 rfl)
      · have hY : wpY_mate (fun r' v' => r' = -2 ∧ i_Rel (k + 3) (1, nI s, nI h, xr, b, xp, xq, xt, xv, xk, xz) v') (1, nI s, nI h, yl, ya, yb, b, yF, yT, yM, yC, yp, yt, yz) v1 := br_f (by decide) (br_f z1 (br_f z2 ⟨rfl, ch_R1 hs hh H⟩))
        refine br_f (by decide) ?_
        by_cases n1 : v1 < 1
        · exact br_t n1 hY
        · refine br_f n1 ?_
          by_cases n2 : v1 ≤ 2
          · obtain ⟨D, hD, rfl⟩ := nI_of2 (M := 2) (n := 2) (by decide) (ch_lt1 n1) n2
            have h3 : D = 0 ∨ D = 1 ∨ D = 2 := by omega
            rcases h3 with e | e | e
            · subst e; exact absurd (show nI 0 < 1 by decide) n1
            · subst e; exact absurd rfl z1
            · subst e; exact absurd rfl z2
          · exact br_f n2 hY
end
