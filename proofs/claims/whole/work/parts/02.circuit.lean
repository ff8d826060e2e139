/-! the pure circuit: all variables of a pair (state, inputs) packed in one number, variable v at bit v -/
def ic_lt (V l : Nat) : Nat := (V / 2 ^ (l / 2) + l) % 2
theorem ic_lt2 (V l : Nat) : ic_lt V l < 2 := Nat.mod_lt _ (by decide)
def ic_V (ni nl : Nat) (gl gr : Nat → Int32) (s x : Nat) : Nat → Nat
  | 0 => x * 2 ^ 1 + s * 2 ^ (1 + ni)
  | g + 1 => ic_V ni nl gl gr s x g + ic_lt (ic_V ni nl gl gr s x g) (gl g).toNatClampNeg * ic_lt (ic_V ni nl gl gr s x g) (gr g).toNatClampNeg * 2 ^ (1 + ni + nl + g)
def ic_N (ln : Nat → Int32) (V : Nat) : Nat → Nat
  | 0 => 0
  | j + 1 => ic_N ln V j + ic_lt V (ln j).toNatClampNeg * 2 ^ j
def ic_I (li : Nat → Int32) : Nat → Nat
  | 0 => 0
  | j + 1 => ic_I li j + (li j).toNatClampNeg * 2 ^ j
theorem ic_step {V b k : Nat} (hV : V < 2 ^ k) (hb : b < 2) : V + b * 2 ^ k < 2 ^ (k + 1) := by
  have h : b * 2 ^ k ≤ 1 * 2 ^ k := Nat.mul_le_mul_right _ (by omega)
  rw [Nat.pow_succ]
  omega
theorem ic_m2 {a b : Nat} (ha : a < 2) (hb : b < 2) : a * b < 2 := by
  have h : a * b ≤ 1 * 1 := Nat.mul_le_mul (by omega) (by omega)
  omega
theorem ic_V0_lt {ni nl s x : Nat} (hs : s < 2 ^ nl) (hx : x < 2 ^ ni) : x * 2 ^ 1 + s * 2 ^ (1 + ni) < 2 ^ (1 + ni + nl) := by
  have h1 : s * 2 ^ (1 + ni) + 2 ^ (1 + ni) ≤ 2 ^ nl * 2 ^ (1 + ni) := by
    rw [← Nat.succ_mul]
    exact Nat.mul_le_mul_right _ hs
  have h2 : 2 ^ (1 + ni + nl) = 2 ^ nl * 2 ^ (1 + ni) := by rw [Nat.pow_add _ (1 + ni), Nat.mul_comm]
  have h3 : 2 ^ (1 + ni) = 2 * 2 ^ ni := by rw [Nat.pow_add, Nat.pow_one]
  generalize s * 2 ^ (1 + ni) = a at h1 ⊢
  generalize 2 ^ nl * 2 ^ (1 + ni) = b at h1 h2
  generalize 2 ^ (1 + ni + nl) = c at h2 ⊢
  generalize 2 ^ (1 + ni) = e at h1 h3
  omega
theorem ic_V_lt {ni nl : Nat} {gl gr : Nat → Int32} {s x : Nat} (hs : s < 2 ^ nl) (hx : x < 2 ^ ni) : ∀ g, ic_V ni nl gl gr s x g < 2 ^ (1 + ni + nl + g) := by
  intro g
  induction g with
  | zero => exact ic_V0_lt hs hx
  | succ g ih => exact ic_step ih (ic_m2 (ic_lt2 _ _) (ic_lt2 _ _))
theorem ic_N_lt (ln : Nat → Int32) (V : Nat) : ∀ j, ic_N ln V j < 2 ^ j := by
  intro j
  induction j with
  | zero => exact Nat.zero_lt_one
  | succ j ih => exact ic_step ih (ic_lt2 _ _)
theorem ic_I_lt {li : Nat → Int32} {n : Nat} (h : ∀ j, j < n → (li j).toNatClampNeg < 2) : ∀ j, j ≤ n → ic_I li j < 2 ^ j := by
  intro j
  induction j with
  | zero => intro _; exact Nat.zero_lt_one
  | succ j ih => intro hj; exact ic_step (ih (by omega)) (h j (by omega))
/-- a literal below 2 * n -/
def ic_li (n : Nat) (z : Int32) : Prop := ∃ l : Nat, z = nI l ∧ l < 2 * n
theorem ic_li_up {n m : Nat} {z : Int32} (h : ic_li n z) (hm : n ≤ m) : ic_li m z := by
  obtain ⟨l, e, hl⟩ := h
  exact ⟨l, e, by omega⟩
theorem ic_V_30 {ni nl g : Nat} {gl gr : Nat → Int32} {s x : Nat} (hs : s < 2 ^ nl) (hx : x < 2 ^ ni) (h : 1 + ni + nl + g ≤ 30) : ic_V ni nl gl gr s x g < 2 ^ 31 :=
  Nat.lt_trans (ic_V_lt hs hx g) (ib_pow_lt h)
/-- X's value of a literal -/
theorem ic_xl {V l : Nat} (hV : V < 2 ^ 31) (hl : l < 64) : ((nI V >>> ((nI l >>> ((1 : Int32) &&& 31)) &&& 31)) ^^^ nI l) &&& 1 = nI (ic_lt V l) := by
  rw [ib_shr1 (by omega), ib_shr hV (by omega), nx_xor, ib_and1, ib_xor2]
  rfl
/-- Y's value of a literal, from the cell of its variable -/
theorem ic_yl {V l : Nat} {z : Int32} (hz : z = nI (V / 2 ^ (l / 2) % 2)) : (z ^^^ (nI l &&& 1)) &&& 1 = nI (ic_lt V l) := by
  rw [hz, ib_and1, nx_xor, ib_and1, ib_xor2]
  unfold ic_lt
  generalize V / 2 ^ (l / 2) = m
  congr 1
  omega
/-- the cells of Y hold the bits of V, below n -/
def ic_vs (V n : Nat) (a : Nat → Int32) : Prop := ∀ v, v < n → a v = nI (V / 2 ^ v % 2)
theorem ic_vs_set {V n b : Nat} {a : Nat → Int32} (h : ic_vs V n a) (hV : V < 2 ^ n) (hb : b < 2) : ic_vs (V + b * 2 ^ n) (n + 1) (upd a n (nI b)) := by
  intro v hv
  by_cases e : v = n
  · subst e
    rw [pk_us, ib_hi hV hb]
  · rw [pk_un e, ib_lo (by omega)]
    exact h v (by omega)
theorem ic_vs_put {V n : Nat} {a : Nat → Int32} {z : Int32} (h : ic_vs V n a) (hz : z = nI (V / 2 ^ n % 2)) : ic_vs V (n + 1) (upd a n z) := by
  intro v hv
  by_cases e : v = n
  · subst e
    rw [pk_us, hz]
  · rw [pk_un e]
    exact h v (by omega)
theorem ic_V0_0 (ni s x : Nat) : (x * 2 ^ 1 + s * 2 ^ (1 + ni)) / 2 ^ 0 % 2 = 0 := by
  rw [ib_lo (by omega)]
  omega
theorem ic_V0_x {ni s x j : Nat} (hj : j < ni) : (x * 2 ^ 1 + s * 2 ^ (1 + ni)) / 2 ^ (1 + j) % 2 = x / 2 ^ j % 2 := by
  rw [ib_lo (by omega), Nat.pow_add 2 1 j, ← Nat.div_div_eq_div_mul, Nat.mul_div_cancel _ (by decide)]
theorem ic_V0_s {ni s x j : Nat} (hx : x < 2 ^ ni) : (x * 2 ^ 1 + s * 2 ^ (1 + ni)) / 2 ^ (1 + ni + j) % 2 = s / 2 ^ j % 2 := by
  have h3 : 2 ^ (1 + ni) = 2 * 2 ^ ni := by rw [Nat.pow_add, Nat.pow_one]
  have h4 : x * 2 ^ 1 / 2 ^ (1 + ni) = 0 := Nat.div_eq_of_lt (by omega)
  rw [Nat.pow_add 2 (1 + ni) j, ← Nat.div_div_eq_div_mul, Nat.add_mul_div_right _ _ (Nat.two_pow_pos _), h4, Nat.zero_add]
/-- what holds of the circuit at every turn -/
def ic_ok (ni nl ng : Nat) (gl gr ln li : Nat → Int32) (bd : Int32) : Prop :=
  ni ≤ 3 ∧ 1 ≤ nl ∧ nl ≤ 4 ∧ ng ≤ 16 ∧ (∀ g, g < ng → ic_li (1 + ni + nl + g) (gl g)) ∧ (∀ g, g < ng → ic_li (1 + ni + nl + g) (gr g)) ∧ (∀ j, j < nl → ic_li (1 + ni + nl + ng) (ln j)) ∧ (∀ j, j < nl → ∃ b : Nat, li j = nI b ∧ b < 2) ∧ ic_li (1 + ni + nl + ng) bd
def ic_nx (ni nl ng : Nat) (gl gr ln : Nat → Int32) (s x : Nat) : Nat := ic_N ln (ic_V ni nl gl gr s x ng) nl
def ic_bv (ni nl ng : Nat) (gl gr : Nat → Int32) (bd : Int32) (s x : Nat) : Nat := ic_lt (ic_V ni nl gl gr s x ng) bd.toNatClampNeg
theorem ic_nx_lt (ni nl ng : Nat) (gl gr ln : Nat → Int32) (s x : Nat) : ic_nx ni nl ng gl gr ln s x < 2 ^ nl := ic_N_lt _ _ _
/-- the constructor's latches -/
def ic_l0 (ni : Nat) : Nat → Nat → Int32
  | 0 => fun _ => 0
  | j + 1 => upd (ic_l0 ni j) j (nI (2 * (1 + ni + j)))
def ic_i0 : Nat → Nat → Int32
  | 0 => fun _ => 0
  | j + 1 => upd (ic_i0 j) j 0
theorem ic_l0_at (ni : Nat) : ∀ n j, j < n → ic_l0 ni n j = nI (2 * (1 + ni + j)) := by
  intro n
  induction n with
  | zero => intro j hj; omega
  | succ n ih =>
    intro j hj
    by_cases e : j = n
    · subst e; exact pk_us
    · exact (pk_un e).trans (ih j (by omega))
theorem ic_i0_at : ∀ n j, ic_i0 n j = 0 := by
  intro n
  induction n with
  | zero => intro j; rfl
  | succ n ih =>
    intro j
    by_cases e : j = n
    · subst e; exact pk_us
    · exact (pk_un e).trans (ih j)
