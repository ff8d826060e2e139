section
/-! rows of kit/rows, as they are given for pasting -/
theorem pk_us {f : Nat → Int32} {k : Nat} {x : Int32} : upd f k x k = x := if_pos rfl
theorem pk_un {f : Nat → Int32} {k j : Nat} {x : Int32} (h : j ≠ k) : upd f k x j = f j := if_neg h
theorem pk_sub {a b : Nat} (h : b ≤ a) : nI a - nI b = nI (a - b) := by
  obtain ⟨c, rfl⟩ : ∃ c, a = c + b := ⟨a - b, by omega⟩
  rw [← nI_add, Int32.add_sub_cancel, Nat.add_sub_cancel]
theorem pk_m1 (n : Nat) : nI (n + 1) + (-1) = nI n := by
  rw [← nI_1, Int32.add_assoc, show (1 : Int32) + (-1) = 0 from rfl, Int32.add_zero]
theorem pk_mul (a b : Nat) : nI a * nI b = nI (a * b) := (Int32.ofNat_mul a b).symm
theorem pk_ix (x : Int32) {n : Nat} (hn : n < 2 ^ 31) : x < 0 ∨ nI n ≤ x ∨ ∃ j : Nat, j < n ∧ x = nI j := by
  by_cases h : x < 0
  · exact Or.inl h
  · obtain ⟨j, hj, rfl⟩ := nI_of h
    by_cases h2 : j < n
    · exact Or.inr (Or.inr ⟨j, h2, rfl⟩)
    · exact Or.inr (Or.inl (nI_le (by omega) hj))
theorem pk_le {x y : Int32} {A B : Prop} (a b : Nat) (f : a ≤ b → A) (g : b < a → B) (hx : x = nI a := by rfl) (hy : y = nI b := by rfl) (ha : a < 2 ^ 31 := by omega) (hb : b < 2 ^ 31 := by omega) : (x ≤ y → A) ∧ (¬ x ≤ y → B) := by
  subst hx hy
  rw [nI_leI ha hb]
  exact ⟨f, fun z => g (by omega)⟩
theorem pk_lt {x y : Int32} {A B : Prop} (a b : Nat) (f : a < b → A) (g : b ≤ a → B) (hx : x = nI a := by rfl) (hy : y = nI b := by rfl) (ha : a < 2 ^ 31 := by omega) (hb : b < 2 ^ 31 := by omega) : (x < y → A) ∧ (¬ x < y → B) := by
  subst hx hy
  rw [nI_ltI ha hb]
  exact ⟨f, fun z => g (by omega)⟩
theorem pk_eq {x y : Int32} {A B : Prop} (a b : Nat) (f : a = b → A) (g : a ≠ b → B) (hx : x = nI a := by rfl) (hy : y = nI b := by rfl) (ha : a < 2 ^ 31 := by omega) (hb : b < 2 ^ 31 := by omega) : (x = y → A) ∧ (¬ x = y → B) := by
  subst hx hy
  rw [nI_eq ha hb]
  exact ⟨f, g⟩
theorem pk_in {x : Int32} (n N : Nat) (h : n < N) (hx : x = nI n := by rfl) (hN : N < 2 ^ 31 := by omega) : vp_in x N := by
  subst hx
  exact vp_in_nI h hN
theorem pk_cl {x : Int32} (n : Nat) (hx : x = nI n := by rfl) (h : n < 2 ^ 31 := by omega) : x.toNatClampNeg = n := by
  subst hx
  exact nI_clamp h
theorem pk_tn {n : Nat} (h : n < 2 ^ 32) : (nI n).toBitVec.toNat = n := Nat.mod_eq_of_lt h
theorem pk_and (x : Int32) {m : Int32} (k : Nat) (hm : m.toBitVec.toNat = 2 ^ k - 1) : x &&& m = nI (x.toBitVec.toNat % 2 ^ k) := by
  apply Int32.toBitVec_inj.mp
  apply BitVec.eq_of_toNat_eq
  rw [Int32.toBitVec_and, BitVec.toNat_and, hm, Nat.and_two_pow_sub_one_eq_mod]
  show _ = (BitVec.ofNat 32 _).toNat
  rw [BitVec.toNat_ofNat]
  exact (Nat.mod_eq_of_lt (Nat.lt_of_le_of_lt (Nat.mod_le _ _) x.toBitVec.isLt)).symm
theorem pk_andN {n : Nat} (h : n < 2 ^ 32) {m : Int32} (k : Nat) (hm : m.toBitVec.toNat = 2 ^ k - 1) : nI n &&& m = nI (n % 2 ^ k) := by
  rw [pk_and _ k hm, pk_tn h]
theorem pk_shl (a s : Int32) (k : Nat) (hs : (s.toBitVec.smod 32).toNat = k) : (a <<< s).toBitVec.toNat = a.toBitVec.toNat * 2 ^ k % 2 ^ 32 := by
  show (a.toBitVec <<< (s.toBitVec.smod 32).toNat).toNat = _
  rw [hs, BitVec.toNat_shiftLeft, Nat.shiftLeft_eq]
theorem pk_shlN {n : Nat} (s : Int32) (k : Nat) (hs : (s.toBitVec.smod 32).toNat = k) (h : n * 2 ^ k < 2 ^ 32) : nI n <<< s = nI (n * 2 ^ k) := by
  apply Int32.toBitVec_inj.mp
  apply BitVec.eq_of_toNat_eq
  have hn : n < 2 ^ 32 := Nat.lt_of_le_of_lt (Nat.le_mul_of_pos_right n (Nat.two_pow_pos k)) h
  rw [pk_shl _ _ k hs, pk_tn hn, pk_tn h, Nat.mod_eq_of_lt h]
theorem pk_shr (a s : Int32) (k : Nat) (hs : (s.toBitVec.smod 32).toNat = k) : (a >>> s).toInt = a.toInt >>> k := by
  show (a.toBitVec.sshiftRight (s.toBitVec.smod 32).toNat).toInt = _
  rw [hs, BitVec.toInt_sshiftRight]
  rfl
theorem pk_shrN {n : Nat} (h : n < 2 ^ 31) (s : Int32) (k : Nat) (hs : (s.toBitVec.smod 32).toNat = k) : nI n >>> s = nI (n / 2 ^ k) := by
  apply Int32.toInt_inj.mp
  have h2 : n / 2 ^ k ≤ n := Nat.div_le_self _ _
  rw [pk_shr _ _ k hs, nI_toInt h, nI_toInt (by omega), Int.shiftRight_eq_div_pow]
  rfl
theorem pk_least (P : Nat → Prop) (h : ∃ k, P k) : ∃ k, P k ∧ ∀ j, j < k → ¬ P j := by
  obtain ⟨k, hk⟩ := h
  induction k using Nat.strongRecOn with
  | ind k ih =>
    by_cases e : ∃ j, j < k ∧ P j
    · obtain ⟨j, hj, pj⟩ := e
      exact ih j hj pj
    · exact ⟨k, hk, fun j hj pj => e ⟨j, hj, pj⟩⟩
theorem s_l : ∀ n, n < 32 → ((nI n &&& 31).toBitVec.smod 32).toNat = n := by decide +kernel
theorem nx_and (a b : Nat) : nI a &&& nI b = nI (a &&& b) := by
  apply Int32.toBitVec_inj.1
  show BitVec.ofNat 32 a &&& BitVec.ofNat 32 b = BitVec.ofNat 32 (a &&& b)
  apply BitVec.eq_of_getLsbD_eq
  intro i hi
  simp [hi]
theorem nx_xor (a b : Nat) : nI a ^^^ nI b = nI (a ^^^ b) := by
  apply Int32.toBitVec_inj.1
  show BitVec.ofNat 32 a ^^^ BitVec.ofNat 32 b = BitVec.ofNat 32 (a ^^^ b)
  apply BitVec.eq_of_getLsbD_eq
  intro i hi
  simp [hi]
/-! bits over nI: own rows -/
theorem ib_or (a b : Nat) : nI a ||| nI b = nI (a ||| b) := by
  apply Int32.toBitVec_inj.1
  show BitVec.ofNat 32 a ||| BitVec.ofNat 32 b = BitVec.ofNat 32 (a ||| b)
  apply BitVec.eq_of_getLsbD_eq
  intro i hi
  simp [hi]
theorem ib_shl {n k : Nat} (hk : k < 32) (h : n * 2 ^ k < 2 ^ 32) : nI n <<< (nI k &&& 31) = nI (n * 2 ^ k) := pk_shlN _ k (s_l k hk) h
theorem ib_shr {n k : Nat} (hn : n < 2 ^ 31) (hk : k < 32) : nI n >>> (nI k &&& 31) = nI (n / 2 ^ k) := pk_shrN hn _ k (s_l k hk)
theorem ib_shr1 {n : Nat} (hn : n < 2 ^ 31) : nI n >>> ((1 : Int32) &&& 31) = nI (n / 2) := pk_shrN hn _ 1 (by decide)
theorem ib_shl1 {n : Nat} (h : n * 2 ^ 1 < 2 ^ 32) : nI n <<< ((1 : Int32) &&& 31) = nI (n * 2 ^ 1) := pk_shlN _ 1 (by decide) h
theorem ib_orA {V k : Nat} (b : Nat) (h : V < 2 ^ k) : nI V ||| nI (b * 2 ^ k) = nI (V + b * 2 ^ k) := by
  rw [ib_or, Nat.or_comm, Nat.mul_comm b, ← Nat.two_pow_add_eq_or_of_lt h b, Nat.add_comm]
theorem ib_and1 (n : Nat) : nI n &&& 1 = nI (n % 2) := by
  show nI n &&& nI 1 = _
  rw [nx_and, Nat.and_one_is_mod]
theorem ib_xor2 (a b : Nat) : (a ^^^ b) % 2 = (a + b) % 2 := by
  have h := Nat.xor_mod_two_eq_one (a := a) (b := b)
  generalize a ^^^ b = c at h
  first | omega | grind
theorem ib_and2 : ∀ a, a < 2 → ∀ b, b < 2 → nI a &&& nI b = nI (a * b) := by decide +kernel
theorem ib_pow1 : ∀ n, n < 6 → (1 : Int32) <<< (nI n &&& 31) = nI (2 ^ n) := by decide +kernel
theorem ib_mask : ∀ n, n < 6 → (((1 : Int32) <<< (nI n &&& 31)) - 1).toBitVec.toNat = 2 ^ n - 1 := by decide +kernel
theorem ib_pow_le {n : Nat} (h : n ≤ 4) : 2 ^ n ≤ 16 := Nat.pow_le_pow_right (n := 2) (by decide) h
theorem ib_pow_le8 {n : Nat} (h : n ≤ 3) : 2 ^ n ≤ 8 := Nat.pow_le_pow_right (n := 2) (by decide) h
theorem ib_pow_lt {n : Nat} (h : n ≤ 30) : 2 ^ n < 2 ^ 31 := Nat.pow_lt_pow_right (by decide) (by omega)
theorem ib_lo {V k b v : Nat} (hv : v < k) : (V + b * 2 ^ k) / 2 ^ v % 2 = V / 2 ^ v % 2 := by
  obtain ⟨c, rfl⟩ : ∃ c, k = v + (c + 1) := ⟨k - v - 1, by omega⟩
  have e : V + b * 2 ^ (v + (c + 1)) = V + 2 ^ v * (2 * (b * 2 ^ c)) := by
    rw [Nat.pow_add, Nat.pow_succ]
    congr 1
    rw [Nat.mul_left_comm, Nat.mul_comm (2 ^ c) 2, Nat.mul_left_comm b 2]
  rw [e, Nat.add_mul_div_left _ _ (Nat.two_pow_pos v), Nat.add_mul_mod_self_left]
theorem ib_hi {V k b : Nat} (hV : V < 2 ^ k) (hb : b < 2) : (V + b * 2 ^ k) / 2 ^ k % 2 = b := by
  rw [Nat.add_mul_div_right _ _ (Nat.two_pow_pos k), Nat.div_eq_of_lt hV, Nat.zero_add, Nat.mod_eq_of_lt hb]
theorem ib_nm1 {n : Nat} (h : n < 2 ^ 31) : ¬ nI n = -1 := by
  intro e
  have h2 := nI_pos h
  rw [e] at h2
  exact h2 (by decide)
theorem ib_n0 (a : Nat) : 0 + nI a = nI a := by
  rw [← nI_0, nI_add, Nat.zero_add]
theorem ib_1 (a : Nat) : 1 + nI a = nI (1 + a) := by
  show nI 1 + nI a = _
  rw [nI_add]
theorem ib_2 (a : Nat) : 2 * nI a = nI (2 * a) := by
  show nI 2 * nI a = _
  rw [pk_mul]
end
section
/-! the pure circuit: all variables of a pair (state, inputs) packed in one number, variable v at bit v -/
def ic_lt (V l : Nat) : Nat := (V / 2 ^ (l / 2) + l) % 2
theorem ic_lt2 (V l : Nat) : ic_lt V l < 2 := Nat.mod_lt _ (by decide)
def ic_V (ni nl : Nat) (gl gr : Nat → Int32) (s x : Nat) : Nat → Nat
  | 0 => x * 2 ^ 1 + s * 2 ^ (1 + ni)
  | g + 1 => ic_V ni nl gl gr s x g + ic_lt (ic_V ni nl gl gr s x g) (gl g).toNatClampNeg * ic_lt (ic_V ni nl gl gr s x g) (gr g).toNatClampNeg * 2 ^ (1 + ni + nl + g)
def ic_N (ln : Nat → Int32) (V : Nat) : Nat → Nat
  | 0 => 0
  | j + 1 => ic_N ln V j + ic_lt V (ln j).toNatClampNeg * 2 ^ j
def ic_I (li : Nat → Int32) : Nat → Nat
  | 0 => 0
  | j + 1 => ic_I li j + (li j).toNatClampNeg * 2 ^ j
theorem ic_step {V b k : Nat} (hV : V < 2 ^ k) (hb : b < 2) : V + b * 2 ^ k < 2 ^ (k + 1) := by
  have h : b * 2 ^ k ≤ 1 * 2 ^ k := Nat.mul_le_mul_right _ (by omega)
  rw [Nat.pow_succ]
  omega
theorem ic_m2 {a b : Nat} (ha : a < 2) (hb : b < 2) : a * b < 2 := by
  have h : a * b ≤ 1 * 1 := Nat.mul_le_mul (by omega) (by omega)
  omega
theorem ic_V0_lt {ni nl s x : Nat} (hs : s < 2 ^ nl) (hx : x < 2 ^ ni) : x * 2 ^ 1 + s * 2 ^ (1 + ni) < 2 ^ (1 + ni + nl) := by
  have h1 : s * 2 ^ (1 + ni) + 2 ^ (1 + ni) ≤ 2 ^ nl * 2 ^ (1 + ni) := by
    rw [← Nat.succ_mul]
    exact Nat.mul_le_mul_right _ hs
  have h2 : 2 ^ (1 + ni + nl) = 2 ^ nl * 2 ^ (1 + ni) := by rw [Nat.pow_add _ (1 + ni), Nat.mul_comm]
  have h3 : 2 ^ (1 + ni) = 2 * 2 ^ ni := by rw [Nat.pow_add, Nat.pow_one]
  generalize s * 2 ^ (1 + ni) = a at h1 ⊢
  generalize 2 ^ nl * 2 ^ (1 + ni) = b at h1 h2
  generalize 2 ^ (1 + ni + nl) = c at h2 ⊢
  generalize 2 ^ (1 + ni) = e at h1 h3
  omega
theorem ic_V_lt {ni nl : Nat} {gl gr : Nat → Int32} {s x : Nat} (hs : s < 2 ^ nl) (hx : x < 2 ^ ni) : ∀ g, ic_V ni nl gl gr s x g < 2 ^ (1 + ni + nl + g) := by
  intro g
  induction g with
  | zero => exact ic_V0_lt hs hx
  | succ g ih => exact ic_step ih (ic_m2 (ic_lt2 _ _) (ic_lt2 _ _))
theorem ic_N_lt (ln : Nat → Int32) (V : Nat) : ∀ j, ic_N ln V j < 2 ^ j := by
  intro j
  induction j with
  | zero => exact Nat.zero_lt_one
  | succ j ih => exact ic_step ih (ic_lt2 _ _)
theorem ic_I_lt {li : Nat → Int32} {n : Nat} (h : ∀ j, j < n → (li j).toNatClampNeg < 2) : ∀ j, j ≤ n → ic_I li j < 2 ^ j := by
  intro j
  induction j with
  | zero => intro _; exact Nat.zero_lt_one
  | succ j ih => intro hj; exact ic_step (ih (by omega)) (h j (by omega))
/-- a literal below 2 * n -/
def ic_li (n : Nat) (z : Int32) : Prop := ∃ l : Nat, z = nI l ∧ l < 2 * n
theorem ic_li_up {n m : Nat} {z : Int32} (h : ic_li n z) (hm : n ≤ m) : ic_li m z := by
  obtain ⟨l, e, hl⟩ := h
  exact ⟨l, e, by omega⟩
theorem ic_V_30 {ni nl g : Nat} {gl gr : Nat → Int32} {s x : Nat} (hs : s < 2 ^ nl) (hx : x < 2 ^ ni) (h : 1 + ni + nl + g ≤ 30) : ic_V ni nl gl gr s x g < 2 ^ 31 :=
  Nat.lt_trans (ic_V_lt hs hx g) (ib_pow_lt h)
/-- X's value of a literal -/
theorem ic_xl {V l : Nat} (hV : V < 2 ^ 31) (hl : l < 64) : ((nI V >>> ((nI l >>> ((1 : Int32) &&& 31)) &&& 31)) ^^^ nI l) &&& 1 = nI (ic_lt V l) := by
  rw [ib_shr1 (by omega), ib_shr hV (by omega), nx_xor, ib_and1, ib_xor2]
  rfl
/-- Y's value of a literal, from the cell of its variable -/
theorem ic_yl {V l : Nat} {z : Int32} (hz : z = nI (V / 2 ^ (l / 2) % 2)) : (z ^^^ (nI l &&& 1)) &&& 1 = nI (ic_lt V l) := by
  rw [hz, ib_and1, nx_xor, ib_and1, ib_xor2]
  unfold ic_lt
  generalize V / 2 ^ (l / 2) = m
  congr 1
  omega
/-- the cells of Y hold the bits of V, below n -/
def ic_vs (V n : Nat) (a : Nat → Int32) : Prop := ∀ v, v < n → a v = nI (V / 2 ^ v % 2)
theorem ic_vs_set {V n b : Nat} {a : Nat → Int32} (h : ic_vs V n a) (hV : V < 2 ^ n) (hb : b < 2) : ic_vs (V + b * 2 ^ n) (n + 1) (upd a n (nI b)) := by
  intro v hv
  by_cases e : v = n
  · subst e
    rw [pk_us, ib_hi hV hb]
  · rw [pk_un e, ib_lo (by omega)]
    exact h v (by omega)
theorem ic_vs_put {V n : Nat} {a : Nat → Int32} {z : Int32} (h : ic_vs V n a) (hz : z = nI (V / 2 ^ n % 2)) : ic_vs V (n + 1) (upd a n z) := by
  intro v hv
  by_cases e : v = n
  · subst e
    rw [pk_us, hz]
  · rw [pk_un e]
    exact h v (by omega)
theorem ic_V0_0 (ni s x : Nat) : (x * 2 ^ 1 + s * 2 ^ (1 + ni)) / 2 ^ 0 % 2 = 0 := by
  rw [ib_lo (by omega)]
  omega
theorem ic_V0_x {ni s x j : Nat} (hj : j < ni) : (x * 2 ^ 1 + s * 2 ^ (1 + ni)) / 2 ^ (1 + j) % 2 = x / 2 ^ j % 2 := by
  rw [ib_lo (by omega), Nat.pow_add 2 1 j, ← Nat.div_div_eq_div_mul, Nat.mul_div_cancel _ (by decide)]
theorem ic_V0_s {ni s x j : Nat} (hx : x < 2 ^ ni) : (x * 2 ^ 1 + s * 2 ^ (1 + ni)) / 2 ^ (1 + ni + j) % 2 = s / 2 ^ j % 2 := by
  have h3 : 2 ^ (1 + ni) = 2 * 2 ^ ni := by rw [Nat.pow_add, Nat.pow_one]
  have h4 : x * 2 ^ 1 / 2 ^ (1 + ni) = 0 := Nat.div_eq_of_lt (by omega)
  rw [Nat.pow_add 2 (1 + ni) j, ← Nat.div_div_eq_div_mul, Nat.add_mul_div_right _ _ (Nat.two_pow_pos _), h4, Nat.zero_add]
/-- what holds of the circuit at every turn -/
def ic_ok (ni nl ng : Nat) (gl gr ln li : Nat → Int32) (bd : Int32) : Prop :=
  ni ≤ 3 ∧ 1 ≤ nl ∧ nl ≤ 4 ∧ ng ≤ 16 ∧ (∀ g, g < ng → ic_li (1 + ni + nl + g) (gl g)) ∧ (∀ g, g < ng → ic_li (1 + ni + nl + g) (gr g)) ∧ (∀ j, j < nl → ic_li (1 + ni + nl + ng) (ln j)) ∧ (∀ j, j < nl → ∃ b : Nat, li j = nI b ∧ b < 2) ∧ ic_li (1 + ni + nl + ng) bd
def ic_nx (ni nl ng : Nat) (gl gr ln : Nat → Int32) (s x : Nat) : Nat := ic_N ln (ic_V ni nl gl gr s x ng) nl
def ic_bv (ni nl ng : Nat) (gl gr : Nat → Int32) (bd : Int32) (s x : Nat) : Nat := ic_lt (ic_V ni nl gl gr s x ng) bd.toNatClampNeg
theorem ic_nx_lt (ni nl ng : Nat) (gl gr ln : Nat → Int32) (s x : Nat) : ic_nx ni nl ng gl gr ln s x < 2 ^ nl := ic_N_lt _ _ _
/-- the constructor's latches -/
def ic_l0 (ni : Nat) : Nat → Nat → Int32
  | 0 => fun _ => 0
  | j + 1 => upd (ic_l0 ni j) j (nI (2 * (1 + ni + j)))
def ic_i0 : Nat → Nat → Int32
  | 0 => fun _ => 0
  | j + 1 => upd (ic_i0 j) j 0
theorem ic_l0_at (ni : Nat) : ∀ n j, j < n → ic_l0 ni n j = nI (2 * (1 + ni + j)) := by
  intro n
  induction n with
  | zero => intro j hj; omega
  | succ n ih =>
    intro j hj
    by_cases e : j = n
    · subst e; exact pk_us
    · exact (pk_un e).trans (ih j (by omega))
theorem ic_i0_at : ∀ n j, ic_i0 n j = 0 := by
  intro n
  induction n with
  | zero => intro j; rfl
  | succ n ih =>
    intro j
    by_cases e : j = n
    · subst e; exact pk_us
    · exact (pk_un e).trans (ih j)
end
section
/-! the pure search: B k s: a bad step in exactly k steps from s; L: k is the least such; F: inputs on a shortest way -/
def ck_B (M : Nat) (nx bv : Nat → Nat → Nat) : Nat → Nat → Prop
  | 0 => fun s => ∃ x, x < M ∧ bv s x = 1
  | k + 1 => fun s => ∃ x, x < M ∧ ck_B M nx bv k (nx s x)
def ck_L (M : Nat) (nx bv : Nat → Nat → Nat) (k s : Nat) : Prop := ck_B M nx bv k s ∧ ∀ j, j < k → ¬ ck_B M nx bv j s
def ck_F (M : Nat) (nx bv : Nat → Nat → Nat) : Nat → Nat → Nat → Prop
  | 0 => fun s x => bv s x = 1
  | k + 1 => fun s x => ck_L M nx bv k (nx s x)
def ck_G (M : Nat) (nx bv : Nat → Nat → Nat) : Nat → Nat → Nat → Prop
  | 0 => fun s x => bv s x = 1
  | k + 1 => fun s x => ck_B M nx bv k (nx s x)
theorem ck_uniq {M : Nat} {nx bv : Nat → Nat → Nat} {j k s : Nat} (h : ck_L M nx bv j s) (h2 : ck_L M nx bv k s) : j = k := by
  rcases Nat.lt_trichotomy j k with e | e | e
  · exact absurd h.1 (h2.2 j e)
  · exact e
  · exact absurd h2.1 (h.2 k e)
theorem ck_FG {M : Nat} {nx bv : Nat → Nat → Nat} {k s x : Nat} (h : ∀ j, j < k → ¬ ck_B M nx bv j s) (hx : x < M) : ck_F M nx bv k s x ↔ ck_G M nx bv k s x := by
  cases k with
  | zero => exact Iff.rfl
  | succ k => exact ⟨fun h2 => h2.1, fun h2 => ⟨h2, fun j hj hB => h (j + 1) (by omega) ⟨x, hx, hB⟩⟩⟩
theorem ck_BG {M : Nat} {nx bv : Nat → Nat → Nat} (k s : Nat) : ck_B M nx bv k s ↔ ∃ x, x < M ∧ ck_G M nx bv k s x := by
  cases k with
  | zero => exact Iff.rfl
  | succ k => exact Iff.rfl
theorem ck_BF {M : Nat} {nx bv : Nat → Nat → Nat} {k s : Nat} (h : ∀ j, j < k → ¬ ck_B M nx bv j s) : ck_B M nx bv k s ↔ ∃ x, x < M ∧ ck_F M nx bv k s x := by
  rw [ck_BG]
  exact ⟨fun ⟨x, hx, g⟩ => ⟨x, hx, (ck_FG h hx).2 g⟩, fun ⟨x, hx, g⟩ => ⟨x, hx, (ck_FG h hx).1 g⟩⟩
def ck_Ls (M : Nat) (nx bv : Nat → Nat → Nat) (k s x : Nat) : Prop := x < M ∧ ck_F M nx bv k s x ∧ ∀ y, y < x → ¬ ck_F M nx bv k s y
noncomputable def ck_x (M : Nat) (nx bv : Nat → Nat → Nat) (k s : Nat) : Nat := Classical.epsilon (fun x : Nat => ck_Ls M nx bv k s x)
theorem ck_x_eq {M : Nat} {nx bv : Nat → Nat → Nat} {k s x : Nat} (h : ck_Ls M nx bv k s x) : ck_x M nx bv k s = x := by
  have h2 : ck_Ls M nx bv k s (ck_x M nx bv k s) := Classical.epsilon_spec (p := fun x : Nat => ck_Ls M nx bv k s x) ⟨x, h⟩
  rcases Nat.lt_trichotomy (ck_x M nx bv k s) x with e | e | e
  · exact absurd h2.2.1 (h.2.2 _ e)
  · exact e
  · exact absurd h.2.1 (h2.2.2 _ e)
theorem ck_x_sp {M : Nat} {nx bv : Nat → Nat → Nat} {k s : Nat} (h : ck_L M nx bv k s) : ck_Ls M nx bv k s (ck_x M nx bv k s) := by
  obtain ⟨x, ⟨hx, hF⟩, hm⟩ := pk_least (fun x => x < M ∧ ck_F M nx bv k s x) ((ck_BF h.2).1 h.1)
  have h2 : ck_Ls M nx bv k s x := ⟨hx, hF, fun y hy hFy => hm y hy ⟨by omega, hFy⟩⟩
  rw [ck_x_eq h2]
  exact h2
noncomputable def ck_st (M : Nat) (nx bv : Nat → Nat → Nat) (d s0 : Nat) : Nat → Nat
  | 0 => s0
  | t + 1 => nx (ck_st M nx bv d s0 t) (ck_x M nx bv (d - t) (ck_st M nx bv d s0 t))
theorem ck_st_L {M : Nat} {nx bv : Nat → Nat → Nat} {d s0 : Nat} (h : ck_L M nx bv d s0) : ∀ t, t ≤ d → ck_L M nx bv (d - t) (ck_st M nx bv d s0 t) := by
  intro t
  induction t with
  | zero => intro _; exact h
  | succ t ih =>
    intro ht
    have h2 := (ck_x_sp (ih (by omega))).2.1
    obtain ⟨k, hk⟩ : ∃ k, d - t = k + 1 := ⟨d - t - 1, by omega⟩
    have e : d - (t + 1) = k := by omega
    rw [e]
    show ck_L M nx bv k (nx (ck_st M nx bv d s0 t) (ck_x M nx bv (d - t) (ck_st M nx bv d s0 t)))
    rw [hk] at h2 ⊢
    exact h2
theorem ck_st_lt {M N : Nat} {nx bv : Nat → Nat → Nat} {d s0 : Nat} (hn : ∀ s x, nx s x < N) (h : s0 < N) : ∀ t, ck_st M nx bv d s0 t < N := by
  intro t
  cases t with
  | zero => exact h
  | succ t => exact hn _ _
/-- what a cell of X's distances says when the distances below k are through -/
def ck_D (M : Nat) (nx bv : Nat → Nat → Nat) (k t : Nat) (v : Int32) : Prop := (∃ j, j < k ∧ v = nI j ∧ ck_L M nx bv j t) ∨ (v = -1 ∧ ∀ j, j < k → ¬ ck_B M nx bv j t)
theorem ck_D_iff {M : Nat} {nx bv : Nat → Nat → Nat} {k t j : Nat} {v : Int32} (h : ck_D M nx bv k t v) (hj : j < k) (hk : k ≤ 100) : v = nI j ↔ ck_L M nx bv j t := by
  rcases h with ⟨i, hi, rfl, hL⟩ | ⟨rfl, hn⟩
  · constructor
    · intro e
      rw [nI_eq (by omega) (by omega)] at e
      rw [← e]; exact hL
    · intro h2
      rw [ck_uniq hL h2]
  · constructor
    · intro e
      exact absurd e.symm (ib_nm1 (by omega))
    · intro h2
      exact absurd h2.1 (hn j hj)
theorem ck_D_m1 {M : Nat} {nx bv : Nat → Nat → Nat} {k t : Nat} {v : Int32} (h : ck_D M nx bv k t v) (hk : k ≤ 100) (hv : v = -1) : ∀ j, j < k → ¬ ck_B M nx bv j t := by
  rcases h with ⟨i, hi, e, hL⟩ | ⟨e, hn⟩
  · exact absurd (e.symm.trans hv) (ib_nm1 (by omega))
  · exact hn
theorem ck_D_up {M : Nat} {nx bv : Nat → Nat → Nat} {k t : Nat} {v : Int32} (h : ck_D M nx bv k t v) (hv : ¬ v = -1) : ck_D M nx bv (k + 1) t v := by
  rcases h with ⟨i, hi, e, hL⟩ | ⟨e, hn⟩
  · exact Or.inl ⟨i, by omega, e, hL⟩
  · exact absurd e hv
theorem ck_D_set {M : Nat} {nx bv : Nat → Nat → Nat} {k t : Nat} (h : ∀ j, j < k → ¬ ck_B M nx bv j t) (hB : ck_B M nx bv k t) : ck_D M nx bv (k + 1) t (nI k) := Or.inl ⟨k, by omega, rfl, hB, h⟩
theorem ck_D_no {M : Nat} {nx bv : Nat → Nat → Nat} {k t : Nat} (h : ∀ j, j < k → ¬ ck_B M nx bv j t) (hB : ¬ ck_B M nx bv k t) : ck_D M nx bv (k + 1) t (-1) := by
  refine Or.inr ⟨rfl, fun j hj => ?_⟩
  by_cases e : j = k
  · rw [e]; exact hB
  · exact h j (by omega)
/-- X's test of an input vector at distance k -/
def ck_X (nx bv : Nat → Nat → Nat) (a : Nat → Int32) : Nat → Nat → Nat → Prop
  | 0 => fun s x => bv s x = 1
  | k + 1 => fun s x => a (nx s x) = nI k
theorem ck_XF {M N : Nat} {nx bv : Nat → Nat → Nat} {a : Nat → Int32} {k s x : Nat} (hn : nx s x < N) (h : ∀ t, t < N → ∃ K, k ≤ K ∧ K ≤ 100 ∧ ck_D M nx bv K t (a t)) : ck_X nx bv a k s x ↔ ck_F M nx bv k s x := by
  cases k with
  | zero => exact Iff.rfl
  | succ k =>
    obtain ⟨K, h1, h2, h3⟩ := h _ hn
    exact ck_D_iff h3 h1 h2
/-- X's distances in the middle of a pass: the states below s are through with k -/
def ck_Dm (M N : Nat) (nx bv : Nat → Nat → Nat) (k s : Nat) (a : Nat → Int32) : Prop := ∀ t, t < N → ck_D M nx bv (if t < s then k + 1 else k) t (a t)
theorem ck_Dm_K {M N : Nat} {nx bv : Nat → Nat → Nat} {k s : Nat} {a : Nat → Int32} (h : ck_Dm M N nx bv k s a) (hk : k ≤ 99) : ∀ t, t < N → ∃ K, k ≤ K ∧ K ≤ 100 ∧ ck_D M nx bv K t (a t) := by
  intro t ht
  refine ⟨_, ?_, ?_, h t ht⟩
  · split <;> omega
  · split <;> omega
theorem ck_Dm_next {M N : Nat} {nx bv : Nat → Nat → Nat} {k : Nat} {a : Nat → Int32} (h : ck_Dm M N nx bv k N a) : ck_Dm M N nx bv (k + 1) 0 a := by
  intro t ht
  have h2 := h t ht
  rw [if_pos ht] at h2
  rw [if_neg (by omega)]
  exact h2
theorem ck_Dm_at {M N : Nat} {nx bv : Nat → Nat → Nat} {k s : Nat} {a : Nat → Int32} (h : ck_Dm M N nx bv k s a) (hs : s < N) : ck_D M nx bv k s (a s) := by
  have h2 := h s hs
  rw [if_neg (by omega)] at h2
  exact h2
theorem ck_Dm_keep {M N : Nat} {nx bv : Nat → Nat → Nat} {k s : Nat} {a : Nat → Int32} (h : ck_Dm M N nx bv k s a) (hs : ck_D M nx bv (k + 1) s (a s)) : ck_Dm M N nx bv k (s + 1) a := by
  intro t ht
  by_cases e : t = s
  · subst e
    rw [if_pos (by omega)]
    exact hs
  · have h2 := h t ht
    by_cases e2 : t < s
    · rw [if_pos e2] at h2
      rw [if_pos (by omega)]
      exact h2
    · rw [if_neg e2] at h2
      rw [if_neg (by omega)]
      exact h2
theorem ck_Dm_upd {M N : Nat} {nx bv : Nat → Nat → Nat} {k s : Nat} {a : Nat → Int32} (h : ck_Dm M N nx bv k s a) (z : Int32) (hs : ck_D M nx bv (k + 1) s z) : ck_Dm M N nx bv k (s + 1) (upd a s z) := by
  intro t ht
  by_cases e : t = s
  · subst e
    rw [if_pos (by omega), pk_us]
    exact hs
  · rw [pk_un e]
    have h2 := h t ht
    by_cases e2 : t < s
    · rw [if_pos e2] at h2
      rw [if_pos (by omega)]
      exact h2
    · rw [if_neg e2] at h2
      rw [if_neg (by omega)]
      exact h2
theorem ck_Dm_0 {M N : Nat} {nx bv : Nat → Nat → Nat} {a : Nat → Int32} (h : ∀ t, t < N → a t = -1) : ck_Dm M N nx bv 0 0 a := by
  intro t ht
  rw [if_neg (by omega)]
  exact Or.inr ⟨h t ht, fun j hj => absurd hj (by omega)⟩
/-- Y's masks: bit t says P t, for t < N -/
def ck_Mk (N m : Nat) (P : Nat → Prop) : Prop := m < 2 ^ 16 ∧ ∀ t, t < N → (m.testBit t = true ↔ P t)
/-- a mask under way: the states below s are through, s has been looked at with the inputs below x -/
def ck_Mw (m s x : Nat) (Q : Nat → Nat → Prop) (M : Nat) : Prop := m < 2 ^ 16 ∧ ∀ t, (m.testBit t = true ↔ (t < s ∧ ∃ y, y < M ∧ Q t y) ∨ (t = s ∧ ∃ y, y < x ∧ Q s y))
theorem ck_Mw_0 {Q : Nat → Nat → Prop} {M : Nat} : ck_Mw 0 0 0 Q M := by
  refine ⟨by decide, fun t => ?_⟩
  rw [Nat.zero_testBit]
  constructor
  · intro h; cases h
  · rintro (⟨h, _⟩ | ⟨_, y, h, _⟩) <;> omega
theorem ck_Mw_row {m s : Nat} {Q : Nat → Nat → Prop} {M : Nat} (h : ck_Mw m s M Q M) : ck_Mw m (s + 1) 0 Q M := by
  refine ⟨h.1, fun t => (h.2 t).trans ?_⟩
  constructor
  · rintro (⟨h1, h2⟩ | ⟨h1, h2⟩)
    · exact Or.inl ⟨by omega, h2⟩
    · subst h1; exact Or.inl ⟨by omega, h2⟩
  · rintro (⟨h1, h2⟩ | ⟨_, y, h2, _⟩)
    · by_cases e : t = s
      · subst e; exact Or.inr ⟨rfl, h2⟩
      · exact Or.inl ⟨by omega, h2⟩
    · omega
theorem ck_Mw_no {m s x : Nat} {Q : Nat → Nat → Prop} {M : Nat} (h : ck_Mw m s x Q M) (hq : ¬ Q s x) : ck_Mw m s (x + 1) Q M := by
  refine ⟨h.1, fun t => (h.2 t).trans ?_⟩
  constructor
  · rintro (h1 | ⟨h1, y, hy, hQ⟩)
    · exact Or.inl h1
    · exact Or.inr ⟨h1, y, by omega, hQ⟩
  · rintro (h1 | ⟨h1, y, hy, hQ⟩)
    · exact Or.inl h1
    · refine Or.inr ⟨h1, y, ?_, hQ⟩
      by_cases e : y = x
      · subst e; exact absurd hQ hq
      · omega
theorem ck_Mw_yes {m s x : Nat} {Q : Nat → Nat → Prop} {M : Nat} (h : ck_Mw m s x Q M) (hs : s < 16) (hq : Q s x) : ck_Mw (m ||| 2 ^ s) s (x + 1) Q M := by
  refine ⟨Nat.or_lt_two_pow h.1 (Nat.pow_lt_pow_right (by decide) hs), fun t => ?_⟩
  rw [Nat.testBit_or, Nat.testBit_two_pow, Bool.or_eq_true, h.2 t, decide_eq_true_iff]
  constructor
  · rintro ((h1 | ⟨h1, y, hy, hQ⟩) | h1)
    · exact Or.inl h1
    · exact Or.inr ⟨h1, y, by omega, hQ⟩
    · exact Or.inr ⟨h1.symm, x, by omega, hq⟩
  · rintro (h1 | ⟨h1, y, hy, hQ⟩)
    · exact Or.inl (Or.inl h1)
    · exact Or.inr h1.symm
theorem ck_Mw_end {m N : Nat} {Q : Nat → Nat → Prop} {M : Nat} (h : ck_Mw m N 0 Q M) : ck_Mk N m (fun t => ∃ y, y < M ∧ Q t y) := by
  refine ⟨h.1, fun t ht => (h.2 t).trans ?_⟩
  constructor
  · rintro (h1 | ⟨_, y, hy, _⟩)
    · exact h1.2
    · omega
  · intro h1
    exact Or.inl ⟨ht, h1⟩
/-- Y's test of a bit of a mask -/
theorem ck_bit {m n : Nat} (hm : m < 2 ^ 16) (hn : n < 32) : (nI m >>> (nI n &&& 31)) &&& 1 = 0 ↔ ¬ m.testBit n = true := by
  rw [ib_shr (by omega) hn, ib_and1, Nat.testBit_eq_decide_div_mod_eq, decide_eq_true_iff]
  have h2 : m / 2 ^ n % 2 < 2 := Nat.mod_lt _ (by decide)
  generalize m / 2 ^ n % 2 = q at h2
  have e : nI q = 0 ↔ q = 0 := by
    rw [← nI_0]; exact nI_eq (by omega) (by omega)
  rw [e]
  omega
theorem ck_or {m s : Nat} (hs : s < 16) : nI m ||| ((1 : Int32) <<< (nI s &&& 31)) = nI (m ||| 2 ^ s) := by
  have h : (1 : Int32) <<< (nI s &&& 31) = nI (1 * 2 ^ s) := by
    show nI 1 <<< (nI s &&& 31) = _
    have h3 : 2 ^ s < 2 ^ 16 := Nat.pow_lt_pow_right (by decide) hs
    exact ib_shl (by omega) (by omega)
  rw [h, ib_or, Nat.one_mul]
end
section
/-! X's private methods against the pure circuit -/
section
variable {ni nl ng : Nat} {bd rs tl : Int32} {gl gr ln li ti ts ds : Nat → Int32}
theorem lx_shb {b k : Nat} (hb : b < 2) (hk : k ≤ 30) : nI b <<< (nI k &&& 31) = nI (b * 2 ^ k) := by
  have h1 : b * 2 ^ k ≤ 1 * 2 ^ 30 := Nat.mul_le_mul (by omega) (Nat.pow_le_pow_right (by decide) hk)
  exact ib_shl (by omega) (by omega)
theorem lx_lv {post : Int32 → Prop} {V l : Nat} {z : Int32} (hV : V < 2 ^ 31) (hz : z = nI l) (hl : l < 64) (h : post (nI (ic_lt V l))) : wpX_literalValue post z (nI V) := by
  subst hz
  unfold wpX_literalValue
  rw [ic_xl hV hl]
  exact h
theorem lx_cl {z : Int32} {l : Nat} (h : z = nI l) (hl : l < 64) : z.toNatClampNeg = l := by
  rw [h]; exact nI_clamp (by omega)
theorem lx_vv_loop {post : Int32 → Prop} {s x : Nat} (hok : ic_ok ni nl ng gl gr ln li bd) (hs : s < 2 ^ nl) (hx : x < 2 ^ ni) (hp : post (nI (ic_V ni nl gl gr s x ng))) : ∀ d g n : Nat, g + d = ng → d < n → wX_variableValues_53 post (nI (1 + ni + nl)) (nI ni) (nI nl) (nI ng) bd rs tl gl gr ln li ti ts ds n (nI (ic_V ni nl gl gr s x g)) (nI g) := by
  obtain ⟨hni, hl1, hl4, hng, hgl, hgr, _⟩ := hok
  intro d
  induction d with
  | zero =>
    intro g n hg hn
    obtain ⟨m, rfl⟩ : ∃ m, n = m + 1 := ⟨n - 1, by omega⟩
    have e : g = ng := by omega
    rw [e]
    exact br_t (nI_le (by omega) (by omega)) hp
  | succ d ih =>
    intro g n hg hn
    obtain ⟨m, rfl⟩ : ∃ m, n = m + 1 := ⟨n - 1, by omega⟩
    obtain ⟨l, el, hl⟩ := hgl g (by omega)
    obtain ⟨r, er, hr⟩ := hgr g (by omega)
    have hV := ic_V_30 (gl := gl) (gr := gr) (g := g) hs hx (by omega)
    have hc : (nI g).toNatClampNeg = g := nI_clamp (by omega)
    refine br_f (nI_ge (by omega) (by omega)) ⟨vp_in_nI (by omega) (by omega), ?_⟩
    refine lx_lv (l := l) hV (by rw [hc, el]) (by omega) ⟨vp_in_nI (by omega) (by omega), ?_⟩
    refine lx_lv (l := r) hV (by rw [hc, er]) (by omega) ?_
    refine nm_r (e' := nI (ic_V ni nl gl gr s x (g + 1))) ?_ (nm_r (nI_1 g) (ih (g + 1) m (by omega) (by omega)))
    rw [ib_and2 _ (ic_lt2 _ _) _ (ic_lt2 _ _), nI_add, lx_shb (ic_m2 (ic_lt2 _ _) (ic_lt2 _ _)) (by omega), ib_orA _ (ic_V_lt hs hx g)]
    show _ = nI (ic_V ni nl gl gr s x g + ic_lt (ic_V ni nl gl gr s x g) (gl g).toNatClampNeg * ic_lt (ic_V ni nl gl gr s x g) (gr g).toNatClampNeg * 2 ^ (1 + ni + nl + g))
    rw [lx_cl el (by omega), lx_cl er (by omega)]
theorem lx_vv {post : Int32 → Prop} {s x : Nat} {st inp : Int32} (hok : ic_ok ni nl ng gl gr ln li bd) (hs : s < 2 ^ nl) (hx : x < 2 ^ ni) (h1 : st &&& (((1 : Int32) <<< (nI nl &&& 31)) - 1) = nI s) (h2 : inp &&& (((1 : Int32) <<< (nI ni &&& 31)) - 1) = nI x) (hp : post (nI (ic_V ni nl gl gr s x ng))) : wpX_variableValues post (nI ni, nI nl, nI ng, bd, rs, tl, gl, gr, ln, li, ti, ts, ds) st inp := by
  have hok2 := hok
  obtain ⟨hni, hl1, hl4, hng, hgl, hgr, _⟩ := hok2
  have b1 := ib_pow_le hl4
  have b2 := ib_pow_le8 hni
  have b3 : 2 ^ (1 + ni) = 2 * 2 ^ ni := by rw [Nat.pow_add, Nat.pow_one]
  have b4 : s * 2 ^ (1 + ni) ≤ 16 * 16 := Nat.mul_le_mul (by omega) (by omega)
  refine nm_r (ib_1 ni) (nm_r (nI_add _ _) (nm_r h2 (nm_r h1 (nm_r (e' := nI (ic_V ni nl gl gr s x 0)) ?_ ⟨ng + 1, lx_vv_loop hok hs hx hp ng 0 (ng + 1) (by omega) (by omega)⟩))))
  rw [ib_shl1 (by omega), ib_shl (by omega) (by omega), ib_orA _ (by omega)]
  rfl
theorem lx_mask {s n : Nat} (hn : n ≤ 4) (hs : s < 2 ^ n) : nI s &&& (((1 : Int32) <<< (nI n &&& 31)) - 1) = nI s := by
  have b1 := ib_pow_le hn
  rw [pk_andN (by omega) n (ib_mask n (by omega)), Nat.mod_eq_of_lt hs]
theorem lx_vvN {post : Int32 → Prop} {s x : Nat} (hok : ic_ok ni nl ng gl gr ln li bd) (hs : s < 2 ^ nl) (hx : x < 2 ^ ni) (hp : post (nI (ic_V ni nl gl gr s x ng))) : wpX_variableValues post (nI ni, nI nl, nI ng, bd, rs, tl, gl, gr, ln, li, ti, ts, ds) (nI s) (nI x) :=
  lx_vv hok hs hx (lx_mask hok.2.2.1 hs) (lx_mask (Nat.le_trans hok.1 (by decide)) hx) hp
theorem lx_ns_loop {post : Int32 → Prop} {V : Nat} (hok : ic_ok ni nl ng gl gr ln li bd) (hV : V < 2 ^ 31) (hp : post (nI (ic_N ln V nl))) : ∀ d j n : Nat, j + d = nl → d < n → wX_nextState_4 post (nI V) (nI ni) (nI nl) (nI ng) bd rs tl gl gr ln li ti ts ds n (nI (ic_N ln V j)) (nI j) := by
  obtain ⟨hni, hl1, hl4, hng, hgl, hgr, hln, _⟩ := hok
  intro d
  induction d with
  | zero =>
    intro j n hj hn
    obtain ⟨m, rfl⟩ : ∃ m, n = m + 1 := ⟨n - 1, by omega⟩
    have e : j = nl := by omega
    rw [e]
    exact br_t (nI_le (by omega) (by omega)) hp
  | succ d ih =>
    intro j n hj hn
    obtain ⟨m, rfl⟩ : ∃ m, n = m + 1 := ⟨n - 1, by omega⟩
    obtain ⟨l, el, hl⟩ := hln j (by omega)
    have hc : (nI j).toNatClampNeg = j := nI_clamp (by omega)
    refine br_f (nI_ge (by omega) (by omega)) ⟨vp_in_nI (by omega) (by omega), ?_⟩
    refine lx_lv (l := l) hV (by rw [hc, el]) (by omega) ?_
    refine nm_r (e' := nI (ic_N ln V (j + 1))) ?_ (nm_r (nI_1 j) (ih (j + 1) m (by omega) (by omega)))
    rw [lx_shb (ic_lt2 _ _) (by omega), ib_orA _ (ic_N_lt ln V j)]
    show _ = nI (ic_N ln V j + ic_lt V (ln j).toNatClampNeg * 2 ^ j)
    rw [lx_cl el (by omega)]
theorem lx_ns {post : Int32 → Prop} {V : Nat} (hok : ic_ok ni nl ng gl gr ln li bd) (hV : V < 2 ^ 31) (hp : post (nI (ic_N ln V nl))) : wpX_nextState post (nI ni, nI nl, nI ng, bd, rs, tl, gl, gr, ln, li, ti, ts, ds) (nI V) :=
  ⟨nl + 1, lx_ns_loop hok hV hp nl 0 (nl + 1) (by omega) (by omega)⟩
theorem lx_is_loop {post : Int32 → Prop} (hok : ic_ok ni nl ng gl gr ln li bd) (hp : post (nI (ic_I li nl))) : ∀ d j n : Nat, j + d = nl → d < n → wX_initialState_4 post (nI ni) (nI nl) (nI ng) bd rs tl gl gr ln li ti ts ds n (nI (ic_I li j)) (nI j) := by
  obtain ⟨hni, hl1, hl4, hng, hgl, hgr, hln, hli, _⟩ := hok
  have hb : ∀ j, j < nl → (li j).toNatClampNeg < 2 := by
    intro j hj
    obtain ⟨b, eb, hb⟩ := hli j hj
    rw [lx_cl eb (by omega)]; exact hb
  intro d
  induction d with
  | zero =>
    intro j n hj hn
    obtain ⟨m, rfl⟩ : ∃ m, n = m + 1 := ⟨n - 1, by omega⟩
    have e : j = nl := by omega
    rw [e]
    exact br_t (nI_le (by omega) (by omega)) hp
  | succ d ih =>
    intro j n hj hn
    obtain ⟨m, rfl⟩ : ∃ m, n = m + 1 := ⟨n - 1, by omega⟩
    obtain ⟨b, eb, hb2⟩ := hli j (by omega)
    have hc : (nI j).toNatClampNeg = j := nI_clamp (by omega)
    refine br_f (nI_ge (by omega) (by omega)) ⟨vp_in_nI (by omega) (by omega), ?_⟩
    refine nm_r (e' := nI (ic_I li (j + 1))) ?_ (nm_r (nI_1 j) (ih (j + 1) m (by omega) (by omega)))
    rw [hc, eb, lx_shb hb2 (by omega), ib_orA _ (ic_I_lt hb j (by omega))]
    show _ = nI (ic_I li j + (li j).toNatClampNeg * 2 ^ j)
    rw [lx_cl eb (by omega)]
theorem lx_is {post : Int32 → Prop} (hok : ic_ok ni nl ng gl gr ln li bd) (hp : post (nI (ic_I li nl))) : wpX_initialState post (nI ni, nI nl, nI ng, bd, rs, tl, gl, gr, ln, li, ti, ts, ds) :=
  ⟨nl + 1, lx_is_loop hok hp nl 0 (nl + 1) (by omega) (by omega)⟩
theorem lx_I_lt (hok : ic_ok ni nl ng gl gr ln li bd) : ic_I li nl < 2 ^ nl := by
  obtain ⟨hni, hl1, hl4, hng, hgl, hgr, hln, hli, _⟩ := hok
  refine ic_I_lt (n := nl) ?_ nl (Nat.le_refl _)
  intro j hj
  obtain ⟨b, eb, hb⟩ := hli j hj
  rw [lx_cl eb (by omega)]; exact hb
theorem lx_V31 {s x : Nat} (hok : ic_ok ni nl ng gl gr ln li bd) (hs : s < 2 ^ nl) (hx : x < 2 ^ ni) : ic_V ni nl gl gr s x ng < 2 ^ 31 := by
  obtain ⟨hni, hl1, hl4, hng, _⟩ := hok
  exact ic_V_30 hs hx (by omega)
end
end
section
/-! X's search: least inputs, distances, trace -/
section
variable {ni nl ng : Nat} {bd rs tl : Int32} {gl gr ln li ti ts ds : Nat → Int32}
theorem lx_li_loop {post : Int32 → Prop} {s k : Nat} (hok : ic_ok ni nl ng gl gr ln li bd) (hs : s < 2 ^ nl) (hk : k ≤ 100) (hF : ∀ r, r < 2 ^ ni → ck_X (ic_nx ni nl ng gl gr ln) (ic_bv ni nl ng gl gr bd) ds k s r → (∀ y, y < r → ¬ ck_X (ic_nx ni nl ng gl gr ln) (ic_bv ni nl ng gl gr bd) ds k s y) → post (nI r)) (hN : (∀ y, y < 2 ^ ni → ¬ ck_X (ic_nx ni nl ng gl gr ln) (ic_bv ni nl ng gl gr bd) ds k s y) → post (-1)) : ∀ d x n : Nat, x + d = 2 ^ ni → d < n → (∀ y, y < x → ¬ ck_X (ic_nx ni nl ng gl gr ln) (ic_bv ni nl ng gl gr bd) ds k s y) → wX_leastInputs_10 post (nI s) (nI k) (nI (2 ^ ni)) (nI ni) (nI nl) (nI ng) bd rs tl gl gr ln li ti ts ds n (nI x) := by
  have hok2 := hok
  obtain ⟨hni, hl1, hl4, hng, hgl, hgr, hln, hli, l, el, hl⟩ := hok2
  have b1 := ib_pow_le hl4
  have b2 := ib_pow_le8 hni
  intro d
  induction d with
  | zero =>
    intro x n hx hn h
    obtain ⟨m, rfl⟩ : ∃ m, n = m + 1 := ⟨n - 1, by omega⟩
    have e : x = 2 ^ ni := by omega
    subst e
    exact br_t (nI_le (by omega) (by omega)) (hN h)
  | succ d ih =>
    intro x n hx hn h
    obtain ⟨m, rfl⟩ : ∃ m, n = m + 1 := ⟨n - 1, by omega⟩
    have hx2 : x < 2 ^ ni := by omega
    have hV := lx_V31 hok hs hx2
    have hnext : ¬ ck_X (ic_nx ni nl ng gl gr ln) (ic_bv ni nl ng gl gr bd) ds k s x → ∀ y, y < x + 1 → ¬ ck_X (ic_nx ni nl ng gl gr ln) (ic_bv ni nl ng gl gr bd) ds k s y := fun hP => lt_s h hP
    refine br_f (nI_ge (by omega) (by omega)) (lx_vvN hok hs hx2 ?_)
    cases k with
    | zero =>
      have hb : (ic_bv ni nl ng gl gr bd) s x = ic_lt (ic_V ni nl gl gr s x ng) l := by
        unfold ic_bv
        rw [lx_cl el (by omega)]
      refine br_t nI_0 (lx_lv (l := l) hV el (by omega) ?_)
      by_cases hP : (ic_bv ni nl ng gl gr bd) s x = 1
      · have h1 : nI (ic_lt (ic_V ni nl gl gr s x ng) l) = 1 := by rw [← hb, hP]; rfl
        exact br_t h1 (br_f (by decide) (hF x hx2 hP h))
      · have h1 : ¬ nI (ic_lt (ic_V ni nl gl gr s x ng) l) = 1 := by
          intro e
          have e2 : nI (ic_lt (ic_V ni nl gl gr s x ng) l) = nI 1 := e
          have h2 := ic_lt2 (ic_V ni nl gl gr s x ng) l
          rw [nI_eq (by omega) (by omega)] at e2
          exact hP (hb.trans e2)
        exact br_f h1 (br_t rfl (nm_r (nI_1 x) (ih (x + 1) m (by omega) (by omega) (hnext hP))))
    | succ k =>
      have hn2 := ic_N_lt ln (ic_V ni nl gl gr s x ng) nl
      have hc : (nI (ic_N ln (ic_V ni nl gl gr s x ng) nl)).toNatClampNeg = ic_N ln (ic_V ni nl gl gr s x ng) nl := nI_clamp (by omega)
      refine br_f (nI_ne0 (by omega) (by omega)) (lx_ns hok hV ⟨vp_in_nI (by omega) (by omega), ?_⟩)
      by_cases hP : ds (ic_N ln (ic_V ni nl gl gr s x ng) nl) = nI k
      · exact br_t (by rw [hc, nI_pred]; exact hP) (br_f (by decide) (hF x hx2 hP h))
      · exact br_f (by rw [hc, nI_pred]; exact hP) (br_t rfl (nm_r (nI_1 x) (ih (x + 1) m (by omega) (by omega) (hnext hP))))
theorem lx_li {post : Int32 → Prop} {s k : Nat} (hok : ic_ok ni nl ng gl gr ln li bd) (hs : s < 2 ^ nl) (hk : k ≤ 100) (hF : ∀ r, r < 2 ^ ni → ck_X (ic_nx ni nl ng gl gr ln) (ic_bv ni nl ng gl gr bd) ds k s r → (∀ y, y < r → ¬ ck_X (ic_nx ni nl ng gl gr ln) (ic_bv ni nl ng gl gr bd) ds k s y) → post (nI r)) (hN : (∀ y, y < 2 ^ ni → ¬ ck_X (ic_nx ni nl ng gl gr ln) (ic_bv ni nl ng gl gr bd) ds k s y) → post (-1)) : wpX_leastInputs post (nI ni, nI nl, nI ng, bd, rs, tl, gl, gr, ln, li, ti, ts, ds) (nI s) (nI k) :=
  nm_r (ib_pow1 ni (Nat.lt_of_le_of_lt hok.1 (by decide))) ⟨2 ^ ni + 1, lx_li_loop hok hs hk hF hN (2 ^ ni) 0 (2 ^ ni + 1) (by omega) (by omega) (fun y hy => absurd hy (by omega))⟩
theorem lx_36 {post : SX → Prop} {J : Int32 → (Nat → Int32) → (Nat → Int32) → (Nat → Int32) → (Nat → Int32) → (Nat → Int32) → (Nat → Int32) → (Nat → Int32) → Prop} {k : Nat} (hok : ic_ok ni nl ng gl gr ln li bd) (hk : k < 16) (hJ : ∀ ds, ck_Dm (2 ^ ni) (2 ^ nl) (ic_nx ni nl ng gl gr ln) (ic_bv ni nl ng gl gr bd) k (2 ^ nl) ds → J (nI (k + 1)) gl gr ln li ti ts ds) : ∀ (d s n : Nat) (ds : Nat → Int32), s + d = 2 ^ nl → d < n → ck_Dm (2 ^ ni) (2 ^ nl) (ic_nx ni nl ng gl gr ln) (ic_bv ni nl ng gl gr bd) k s ds → wX_measureDistances_36 post J (nI (2 ^ nl)) (nI k) (nI ni) (nI nl) (nI ng) bd rs tl n (nI s) gl gr ln li ti ts ds := by
  have hok2 := hok
  obtain ⟨hni, hl1, hl4, hng, _⟩ := hok2
  have b1 := ib_pow_le hl4
  have b2 := ib_pow_le8 hni
  intro d
  induction d with
  | zero =>
    intro s n ds hs hn h
    obtain ⟨m, rfl⟩ : ∃ m, n = m + 1 := ⟨n - 1, by omega⟩
    have e : s = 2 ^ nl := by omega
    subst e
    exact br_t (nI_le (by omega) (by omega)) (nm_r (nI_1 k) (hJ ds h))
  | succ d ih =>
    intro s n ds hs hn h
    obtain ⟨m, rfl⟩ : ∃ m, n = m + 1 := ⟨n - 1, by omega⟩
    have hs2 : s < 2 ^ nl := by omega
    have hc : (nI s).toNatClampNeg = s := nI_clamp (by omega)
    have hD := ck_Dm_at h hs2
    refine br_f (nI_ge (by omega) (by omega)) ⟨vp_in_nI (by omega) (by omega), ?_⟩
    by_cases hm : ds s = -1
    · refine br_t (by rw [hc]; exact hm) ?_
      have hno := ck_D_m1 hD (by omega) hm
      have hXF : ∀ x, ck_X (ic_nx ni nl ng gl gr ln) (ic_bv ni nl ng gl gr bd) ds k s x ↔ ck_F (2 ^ ni) (ic_nx ni nl ng gl gr ln) (ic_bv ni nl ng gl gr bd) k s x := fun x => ck_XF (N := 2 ^ nl) (ic_nx_lt _ _ _ _ _ _ _ _) (ck_Dm_K h (by omega))
      refine lx_li hok hs2 (by omega) ?_ ?_
      · intro r hr hP _
        have hB : ck_B (2 ^ ni) (ic_nx ni nl ng gl gr ln) (ic_bv ni nl ng gl gr bd) k s := (ck_BF hno).2 ⟨r, hr, (hXF r).1 hP⟩
        exact br_f (ib_nm1 (by omega)) ⟨vp_in_nI (by omega) (by omega), nm_r (e' := upd ds s (nI k)) (by rw [hc]) (nm_r (nI_1 s) (ih (s + 1) m _ (by omega) (by omega) (ck_Dm_upd h _ (ck_D_set hno hB))))⟩
      · intro hN
        have hB : ¬ ck_B (2 ^ ni) (ic_nx ni nl ng gl gr ln) (ic_bv ni nl ng gl gr bd) k s := by
          intro hB
          obtain ⟨x, hx, hFx⟩ := (ck_BF hno).1 hB
          exact hN x hx ((hXF x).2 hFx)
        exact br_t rfl (nm_r (nI_1 s) (ih (s + 1) m _ (by omega) (by omega) (ck_Dm_keep h (by rw [hm]; exact ck_D_no hno hB))))
    · exact br_f (by rw [hc]; exact hm) (nm_r (nI_1 s) (ih (s + 1) m _ (by omega) (by omega) (ck_Dm_keep h (ck_D_up hD hm))))
theorem lx_29 {post : SX → Prop} (hok : ic_ok ni nl ng gl gr ln li bd) (hp : ∀ ds, (∀ t, t < 2 ^ nl → ck_D (2 ^ ni) (ic_nx ni nl ng gl gr ln) (ic_bv ni nl ng gl gr bd) (2 ^ nl) t (ds t)) → post (nI ni, nI nl, nI ng, bd, rs, tl, gl, gr, ln, li, ti, ts, ds)) : ∀ (d k n : Nat) (ds : Nat → Int32), k + d = 2 ^ nl → d < n → ck_Dm (2 ^ ni) (2 ^ nl) (ic_nx ni nl ng gl gr ln) (ic_bv ni nl ng gl gr bd) k 0 ds → wX_measureDistances_29 post (nI (2 ^ nl)) (nI ni) (nI nl) (nI ng) bd rs tl n (nI k) gl gr ln li ti ts ds := by
  have hok2 := hok
  obtain ⟨hni, hl1, hl4, hng, _⟩ := hok2
  have b1 := ib_pow_le hl4
  intro d
  induction d with
  | zero =>
    intro k n ds hk hn h
    obtain ⟨m, rfl⟩ : ∃ m, n = m + 1 := ⟨n - 1, by omega⟩
    have e : k = 2 ^ nl := by omega
    subst e
    refine br_t (nI_le (by omega) (by omega)) (hp ds (fun t ht => ?_))
    have h2 := h t ht
    rw [if_neg (by omega)] at h2
    exact h2
  | succ d ih =>
    intro k n ds hk hn h
    obtain ⟨m, rfl⟩ : ∃ m, n = m + 1 := ⟨n - 1, by omega⟩
    exact br_f (nI_ge (by omega) (by omega)) ⟨2 ^ nl + 1, lx_36 hok (by omega) (fun ds' h' => ih (k + 1) m ds' (by omega) (by omega) (ck_Dm_next h')) (2 ^ nl) 0 (2 ^ nl + 1) ds (by omega) (by omega) h⟩
theorem lx_9 {post : SX → Prop} (hok : ic_ok ni nl ng gl gr ln li bd) (hp : ∀ ds, (∀ t, t < 2 ^ nl → ck_D (2 ^ ni) (ic_nx ni nl ng gl gr ln) (ic_bv ni nl ng gl gr bd) (2 ^ nl) t (ds t)) → post (nI ni, nI nl, nI ng, bd, rs, tl, gl, gr, ln, li, ti, ts, ds)) : ∀ (d i n : Nat) (ds : Nat → Int32), i + d = 2 ^ nl → d < n → (∀ t, t < i → ds t = -1) → wX_measureDistances_9 post (nI (2 ^ nl)) (nI ni) (nI nl) (nI ng) bd rs tl n (nI i) gl gr ln li ti ts ds := by
  have hok2 := hok
  obtain ⟨hni, hl1, hl4, hng, _⟩ := hok2
  have b1 := ib_pow_le hl4
  intro d
  induction d with
  | zero =>
    intro i n ds hi hn h
    obtain ⟨m, rfl⟩ : ∃ m, n = m + 1 := ⟨n - 1, by omega⟩
    have e : i = 2 ^ nl := by omega
    subst e
    exact br_t (nI_le (by omega) (by omega)) ⟨2 ^ nl + 1, lx_29 hok hp (2 ^ nl) 0 (2 ^ nl + 1) ds (by omega) (by omega) (ck_Dm_0 h)⟩
  | succ d ih =>
    intro i n ds hi hn h
    obtain ⟨m, rfl⟩ : ∃ m, n = m + 1 := ⟨n - 1, by omega⟩
    have hc : (nI i).toNatClampNeg = i := nI_clamp (by omega)
    refine br_f (nI_ge (by omega) (by omega)) ⟨vp_in_nI (by omega) (by omega), nm_r (e' := upd ds i (-1)) (by rw [hc]) (nm_r (nI_1 i) (ih (i + 1) m _ (by omega) (by omega) ?_))⟩
    intro t ht
    by_cases e : t = i
    · subst e; exact pk_us
    · rw [pk_un e]; exact h t (by omega)
theorem lx_md {post : SX → Prop} (hok : ic_ok ni nl ng gl gr ln li bd) (hp : ∀ ds, (∀ t, t < 2 ^ nl → ck_D (2 ^ ni) (ic_nx ni nl ng gl gr ln) (ic_bv ni nl ng gl gr bd) (2 ^ nl) t (ds t)) → post (nI ni, nI nl, nI ng, bd, rs, tl, gl, gr, ln, li, ti, ts, ds)) : wpX_measureDistances post (nI ni, nI nl, nI ng, bd, rs, tl, gl, gr, ln, li, ti, ts, ds) :=
  nm_r (ib_pow1 nl (Nat.lt_of_le_of_lt hok.2.2.1 (by decide))) ⟨2 ^ nl + 1, lx_9 hok hp (2 ^ nl) 0 (2 ^ nl + 1) ds (by omega) (by omega) (fun t ht => absurd ht (by omega))⟩
/-- the trace's cells below n -/
def ck_Tr (M : Nat) (nx bv : Nat → Nat → Nat) (d s0 n : Nat) (a b : Nat → Int32) : Prop := ∀ t, t < n → a t = nI (ck_x M nx bv (d - t) (ck_st M nx bv d s0 t)) ∧ b t = nI (ck_st M nx bv d s0 t)
theorem ck_Tr_upd {M : Nat} {nx bv : Nat → Nat → Nat} {d s0 n : Nat} {a b : Nat → Int32} {x y : Int32} (h : ck_Tr M nx bv d s0 n a b) (hx : x = nI (ck_x M nx bv (d - n) (ck_st M nx bv d s0 n))) (hy : y = nI (ck_st M nx bv d s0 n)) : ck_Tr M nx bv d s0 (n + 1) (upd a n x) (upd b n y) := by
  intro t ht
  by_cases e : t = n
  · subst e
    rw [pk_us, pk_us]
    exact ⟨hx, hy⟩
  · rw [pk_un e, pk_un e]
    exact h t (by omega)
theorem lx_12 {post : SX → Prop} {d s0 : Nat} (hok : ic_ok ni nl ng gl gr ln li bd) (hs0 : s0 < 2 ^ nl) (hd : d < 2 ^ nl) (hD : ∀ t, t < 2 ^ nl → ck_D (2 ^ ni) (ic_nx ni nl ng gl gr ln) (ic_bv ni nl ng gl gr bd) (2 ^ nl) t (ds t)) (hL : ck_L (2 ^ ni) (ic_nx ni nl ng gl gr ln) (ic_bv ni nl ng gl gr bd) d s0) (hp : ∀ ti ts, ck_Tr (2 ^ ni) (ic_nx ni nl ng gl gr ln) (ic_bv ni nl ng gl gr bd) d s0 (d + 1) ti ts → post (nI ni, nI nl, nI ng, bd, rs, nI d, gl, gr, ln, li, ti, ts, ds)) : ∀ (e t n : Nat) (ti ts : Nat → Int32), t + e = d + 1 → e < n → ck_Tr (2 ^ ni) (ic_nx ni nl ng gl gr ln) (ic_bv ni nl ng gl gr bd) d s0 t ti ts → wX_storeTrace_12 post (nI d) (nI ni) (nI nl) (nI ng) bd rs tl n (nI (ck_st (2 ^ ni) (ic_nx ni nl ng gl gr ln) (ic_bv ni nl ng gl gr bd) d s0 t)) (nI t) gl gr ln li ti ts ds := by
  have hok2 := hok
  obtain ⟨hni, hl1, hl4, hng, _⟩ := hok2
  have b1 := ib_pow_le hl4
  have b2 := ib_pow_le8 hni
  intro e
  induction e with
  | zero =>
    intro t n ti ts ht hn h
    obtain ⟨m, rfl⟩ : ∃ m, n = m + 1 := ⟨n - 1, by omega⟩
    have e : t = d + 1 := by omega
    subst e
    exact br_t (nI_lt (by omega) (by omega)) (hp ti ts h)
  | succ e ih =>
    intro t n ti ts ht hn h
    obtain ⟨m, rfl⟩ : ∃ m, n = m + 1 := ⟨n - 1, by omega⟩
    have hc : (nI t).toNatClampNeg = t := nI_clamp (by omega)
    have hst : ck_st (2 ^ ni) (ic_nx ni nl ng gl gr ln) (ic_bv ni nl ng gl gr bd) d s0 t < 2 ^ nl := ck_st_lt (fun s x => ic_nx_lt _ _ _ _ _ _ s x) hs0 t
    have hLt := ck_st_L hL t (by omega)
    have hXF : ∀ x, ck_X (ic_nx ni nl ng gl gr ln) (ic_bv ni nl ng gl gr bd) ds (d - t) (ck_st (2 ^ ni) (ic_nx ni nl ng gl gr ln) (ic_bv ni nl ng gl gr bd) d s0 t) x ↔ ck_F (2 ^ ni) (ic_nx ni nl ng gl gr ln) (ic_bv ni nl ng gl gr bd) (d - t) (ck_st (2 ^ ni) (ic_nx ni nl ng gl gr ln) (ic_bv ni nl ng gl gr bd) d s0 t) x := fun x => ck_XF (N := 2 ^ nl) (ic_nx_lt _ _ _ _ _ _ _ _) (fun q hq => ⟨2 ^ nl, by omega, by omega, hD q hq⟩)
    have e1 : nI d - nI t = nI (d - t) := pk_sub (by omega)
    refine br_f (nI_nlt (by omega) (by omega)) ?_
    rw [e1]
    refine lx_li hok hst (by omega) ?_ ?_
    · intro r hr hP hmin
      have er := ck_x_eq (k := d - t) (s := ck_st (2 ^ ni) (ic_nx ni nl ng gl gr ln) (ic_bv ni nl ng gl gr bd) d s0 t) ⟨hr, (hXF r).1 hP, fun y hy hFy => hmin y hy ((hXF y).2 hFy)⟩
      refine ⟨vp_in_nI (by omega) (by omega), nm_r (e' := upd ts t (nI (ck_st (2 ^ ni) (ic_nx ni nl ng gl gr ln) (ic_bv ni nl ng gl gr bd) d s0 t))) (by rw [hc]) ⟨vp_in_nI (by omega) (by omega), nm_r (e' := upd ti t (nI r)) (by rw [hc]) ?_⟩⟩
      refine lx_vvN hok hst hr (lx_ns hok (lx_V31 hok hst hr) ?_)
      have est : ic_N ln (ic_V ni nl gl gr (ck_st (2 ^ ni) (ic_nx ni nl ng gl gr ln) (ic_bv ni nl ng gl gr bd) d s0 t) r ng) nl = ck_st (2 ^ ni) (ic_nx ni nl ng gl gr ln) (ic_bv ni nl ng gl gr bd) d s0 (t + 1) := by
        show _ = (ic_nx ni nl ng gl gr ln) (ck_st (2 ^ ni) (ic_nx ni nl ng gl gr ln) (ic_bv ni nl ng gl gr bd) d s0 t) (ck_x (2 ^ ni) (ic_nx ni nl ng gl gr ln) (ic_bv ni nl ng gl gr bd) (d - t) (ck_st (2 ^ ni) (ic_nx ni nl ng gl gr ln) (ic_bv ni nl ng gl gr bd) d s0 t))
        rw [er]
        rfl
      rw [est]
      exact nm_r (nI_1 t) (ih (t + 1) m _ _ (by omega) (by omega) (ck_Tr_upd h (by rw [er]) rfl))
    · intro hN
      have h2 := ck_x_sp hLt
      exact absurd ((hXF _).2 h2.2.1) (hN _ h2.1)
theorem lx_stT {post : SX → Prop} {d s0 : Nat} (hok : ic_ok ni nl ng gl gr ln li bd) (hs0 : s0 < 2 ^ nl) (hd : d < 2 ^ nl) (hD : ∀ t, t < 2 ^ nl → ck_D (2 ^ ni) (ic_nx ni nl ng gl gr ln) (ic_bv ni nl ng gl gr bd) (2 ^ nl) t (ds t)) (hds : ds s0 = nI d) (hL : ck_L (2 ^ ni) (ic_nx ni nl ng gl gr ln) (ic_bv ni nl ng gl gr bd) d s0) (hp : ∀ ti ts, ck_Tr (2 ^ ni) (ic_nx ni nl ng gl gr ln) (ic_bv ni nl ng gl gr bd) d s0 (d + 1) ti ts → post (nI ni, nI nl, nI ng, bd, rs, nI d, gl, gr, ln, li, ti, ts, ds)) : wpX_storeTrace post (nI ni, nI nl, nI ng, bd, rs, tl, gl, gr, ln, li, ti, ts, ds) (nI s0) := by
  have b1 := ib_pow_le hok.2.2.1
  have hc : (nI s0).toNatClampNeg = s0 := nI_clamp (by omega)
  exact ⟨vp_in_nI (by omega) (by omega), nm_r (e' := nI d) (by rw [hc]; exact hds) ⟨d + 2, lx_12 hok hs0 hd hD hL hp (d + 1) 0 (d + 2) ti ts (by omega) (by omega) (fun t ht => absurd ht (by omega))⟩⟩
theorem lx_check {post : Int32 → SX → Prop} (hok : ic_ok ni nl ng gl gr ln li bd) (h1 : (∀ j, j < 2 ^ nl → ¬ ck_B (2 ^ ni) (ic_nx ni nl ng gl gr ln) (ic_bv ni nl ng gl gr bd) j (ic_I li nl)) → ∀ ds, post 1 (nI ni, nI nl, nI ng, bd, 1, tl, gl, gr, ln, li, ti, ts, ds)) (h2 : ∀ d, d < 2 ^ nl → ck_L (2 ^ ni) (ic_nx ni nl ng gl gr ln) (ic_bv ni nl ng gl gr bd) d (ic_I li nl) → ∀ ti ts ds, ck_Tr (2 ^ ni) (ic_nx ni nl ng gl gr ln) (ic_bv ni nl ng gl gr bd) d (ic_I li nl) (d + 1) ti ts → post 2 (nI ni, nI nl, nI ng, bd, 2, nI d, gl, gr, ln, li, ti, ts, ds)) : wpX_check post (nI ni, nI nl, nI ng, bd, rs, tl, gl, gr, ln, li, ti, ts, ds) := by
  have b1 := ib_pow_le hok.2.2.1
  have hI := lx_I_lt hok
  have hc : (nI (ic_I li nl)).toNatClampNeg = ic_I li nl := nI_clamp (by omega)
  unfold wpX_check
  refine lx_md hok (fun ds hD => ?_)
  refine lx_is hok ⟨vp_in_nI (by omega) (by omega), ?_⟩
  rcases hD _ hI with ⟨d, hd, ed, hL⟩ | ⟨em, hn⟩
  · refine br_f (by rw [hc, ed]; exact ib_nm1 (by omega)) ?_
    exact lx_stT hok hI hd hD ed hL (fun ti ts hT => h2 d hd hL ti ts ds hT)
  · exact br_t (by rw [hc]; exact em) (h1 hn ds)
end
end
section
/-! Y's private methods against the pure circuit -/
section
variable {ni nl ng : Nat} {bd rs tl : Int32} {gl gr ln li vs bi tx tz : Nat → Int32}
theorem ly_lv {post : Int32 → Prop} {V n l : Nat} {z : Int32} (hvs : ic_vs V n vs) (hz : z = nI l) (hl : l < 2 * n) (hn : n ≤ 24) (hp : post (nI (ic_lt V l))) : wpY_litVal post (nI ni, nI nl, nI ng, bd, rs, tl, gl, gr, ln, li, vs, bi, tx, tz) z := by
  subst hz
  refine nm_r (ib_shr1 (by omega)) (br_f (nI_pos (by omega)) (br_t (nI_lt (b := 24) (by omega) (by omega)) ⟨vp_in_nI (by omega) (by omega), ?_⟩))
  rw [nI_clamp (n := l / 2) (by omega), ic_yl (hvs (l / 2) (by omega))]
  exact hp
theorem ly_72 {post : SY → Prop} {s x : Nat} (hok : ic_ok ni nl ng gl gr ln li bd) (hs : s < 2 ^ nl) (hx : x < 2 ^ ni) (hp : ∀ vs, ic_vs (ic_V ni nl gl gr s x ng) (1 + ni + nl + ng) vs → post (nI ni, nI nl, nI ng, bd, rs, tl, gl, gr, ln, li, vs, bi, tx, tz)) : ∀ (d g n : Nat) (vs : Nat → Int32), g + d = ng → d < n → ic_vs (ic_V ni nl gl gr s x g) (1 + ni + nl + g) vs → wY_evalAll_72 post (nI ni) (nI nl) (nI ng) bd rs tl n (nI g) gl gr ln li vs bi tx tz := by
  obtain ⟨hni, hl1, hl4, hng, hgl, hgr, _⟩ := hok
  intro d
  induction d with
  | zero =>
    intro g n vs hg hn h
    obtain ⟨m, rfl⟩ : ∃ m, n = m + 1 := ⟨n - 1, by omega⟩
    have e : g = ng := by omega
    subst e
    exact br_t (nI_le (by omega) (by omega)) (hp vs h)
  | succ d ih =>
    intro g n vs hg hn h
    obtain ⟨m, rfl⟩ : ∃ m, n = m + 1 := ⟨n - 1, by omega⟩
    obtain ⟨l, el, hl⟩ := hgl g (by omega)
    obtain ⟨r, er, hr⟩ := hgr g (by omega)
    have hc : (nI g).toNatClampNeg = g := nI_clamp (by omega)
    have eF : ((1 + nI ni) + nI nl) + nI g = nI (1 + ni + nl + g) := by rw [ib_1, nI_add, nI_add]
    have hc2 : (nI (1 + ni + nl + g)).toNatClampNeg = 1 + ni + nl + g := nI_clamp (by omega)
    refine br_f (nI_ge (by omega) (by omega)) ⟨vp_in_nI (by omega) (by omega), ?_⟩
    refine ly_lv (l := l) h (by rw [hc, el]) hl (by omega) ⟨vp_in_nI (by omega) (by omega), ?_⟩
    refine ly_lv (l := r) h (by rw [hc, er]) hr (by omega) ⟨?_, ?_⟩
    · rw [eF]; exact vp_in_nI (by omega) (by omega)
    · refine nm_r (e' := upd vs (1 + ni + nl + g) (nI (ic_lt (ic_V ni nl gl gr s x g) l * ic_lt (ic_V ni nl gl gr s x g) r))) ?_ (nm_r (nI_1 g) (ih (g + 1) m _ (by omega) (by omega) ?_))
      · rw [eF, hc2, ib_and2 _ (ic_lt2 _ _) _ (ic_lt2 _ _)]
      · have h2 := ic_vs_set h (ic_V_lt hs hx g) (ic_m2 (ic_lt2 (ic_V ni nl gl gr s x g) l) (ic_lt2 (ic_V ni nl gl gr s x g) r))
        have e3 : ic_V ni nl gl gr s x (g + 1) = ic_V ni nl gl gr s x g + ic_lt (ic_V ni nl gl gr s x g) l * ic_lt (ic_V ni nl gl gr s x g) r * 2 ^ (1 + ni + nl + g) := by
          show ic_V ni nl gl gr s x g + ic_lt (ic_V ni nl gl gr s x g) (gl g).toNatClampNeg * ic_lt (ic_V ni nl gl gr s x g) (gr g).toNatClampNeg * 2 ^ (1 + ni + nl + g) = _
          rw [lx_cl el (by omega), lx_cl er (by omega)]
        rw [e3]
        exact h2
theorem ly_38 {post : SY → Prop} {s x : Nat} (hok : ic_ok ni nl ng gl gr ln li bd) (hs : s < 2 ^ nl) (hx : x < 2 ^ ni) (hp : ∀ vs, ic_vs (ic_V ni nl gl gr s x ng) (1 + ni + nl + ng) vs → post (nI ni, nI nl, nI ng, bd, rs, tl, gl, gr, ln, li, vs, bi, tx, tz)) : ∀ (d j n : Nat) (vs : Nat → Int32), j + d = nl → d < n → ic_vs (ic_V ni nl gl gr s x 0) (1 + ni + j) vs → wY_evalAll_38 post (nI s) (nI ni) (nI nl) (nI ng) bd rs tl n (nI j) gl gr ln li vs bi tx tz := by
  have hok2 := hok
  obtain ⟨hni, hl1, hl4, hng, _⟩ := hok2
  have b1 := ib_pow_le hl4
  intro d
  induction d with
  | zero =>
    intro j n vs hj hn h
    obtain ⟨m, rfl⟩ : ∃ m, n = m + 1 := ⟨n - 1, by omega⟩
    have e : j = nl := by omega
    subst e
    exact br_t (nI_le (by omega) (by omega)) ⟨ng + 1, ly_72 hok hs hx hp ng 0 (ng + 1) vs (by omega) (by omega) h⟩
  | succ d ih =>
    intro j n vs hj hn h
    obtain ⟨m, rfl⟩ : ∃ m, n = m + 1 := ⟨n - 1, by omega⟩
    have eF : (1 + nI ni) + nI j = nI (1 + ni + j) := by rw [ib_1, nI_add]
    have hc2 : (nI (1 + ni + j)).toNatClampNeg = 1 + ni + j := nI_clamp (by omega)
    refine br_f (nI_ge (by omega) (by omega)) ⟨?_, ?_⟩
    · rw [eF]; exact vp_in_nI (by omega) (by omega)
    · refine nm_r (e' := upd vs (1 + ni + j) (nI (s / 2 ^ j % 2))) ?_ (nm_r (nI_1 j) (ih (j + 1) m _ (by omega) (by omega) ?_))
      · rw [eF, hc2, ib_shr (by omega) (by omega), ib_and1]
      · exact ic_vs_put h (by rw [← ic_V0_s (j := j) hx]; rfl)
theorem ly_9 {post : SY → Prop} {s x : Nat} (hok : ic_ok ni nl ng gl gr ln li bd) (hs : s < 2 ^ nl) (hx : x < 2 ^ ni) (hp : ∀ vs, ic_vs (ic_V ni nl gl gr s x ng) (1 + ni + nl + ng) vs → post (nI ni, nI nl, nI ng, bd, rs, tl, gl, gr, ln, li, vs, bi, tx, tz)) : ∀ (d j n : Nat) (vs : Nat → Int32), j + d = ni → d < n → ic_vs (ic_V ni nl gl gr s x 0) (1 + j) vs → wY_evalAll_9 post (nI s) (nI x) (nI ni) (nI nl) (nI ng) bd rs tl n (nI j) gl gr ln li vs bi tx tz := by
  have hok2 := hok
  obtain ⟨hni, hl1, hl4, hng, _⟩ := hok2
  have b2 := ib_pow_le8 hni
  intro d
  induction d with
  | zero =>
    intro j n vs hj hn h
    obtain ⟨m, rfl⟩ : ∃ m, n = m + 1 := ⟨n - 1, by omega⟩
    have e : j = ni := by omega
    subst e
    exact br_t (nI_le (by omega) (by omega)) ⟨nl + 1, ly_38 hok hs hx hp nl 0 (nl + 1) vs (by omega) (by omega) h⟩
  | succ d ih =>
    intro j n vs hj hn h
    obtain ⟨m, rfl⟩ : ∃ m, n = m + 1 := ⟨n - 1, by omega⟩
    have eF : 1 + nI j = nI (1 + j) := ib_1 j
    have hc2 : (nI (1 + j)).toNatClampNeg = 1 + j := nI_clamp (by omega)
    refine br_f (nI_ge (by omega) (by omega)) ⟨?_, ?_⟩
    · rw [eF]; exact vp_in_nI (by omega) (by omega)
    · refine nm_r (e' := upd vs (1 + j) (nI (x / 2 ^ j % 2))) ?_ (nm_r (nI_1 j) (ih (j + 1) m _ (by omega) (by omega) ?_))
      · rw [eF, hc2, ib_shr (by omega) (by omega), ib_and1]
      · exact ic_vs_put h (by rw [← ic_V0_x (s := s) (x := x) (show j < ni by omega)]; rfl)
theorem ly_ev {post : SY → Prop} {s x : Nat} (hok : ic_ok ni nl ng gl gr ln li bd) (hs : s < 2 ^ nl) (hx : x < 2 ^ ni) (hp : ∀ vs, ic_vs (ic_V ni nl gl gr s x ng) (1 + ni + nl + ng) vs → post (nI ni, nI nl, nI ng, bd, rs, tl, gl, gr, ln, li, vs, bi, tx, tz)) : wpY_evalAll post (nI ni, nI nl, nI ng, bd, rs, tl, gl, gr, ln, li, vs, bi, tx, tz) (nI s) (nI x) := by
  refine nm_e ⟨ni + 1, ly_9 hok hs hx hp ni 0 (ni + 1) (upd vs 0 0) (by omega) (by omega) ?_⟩
  intro v hv
  have e : v = 0 := by omega
  subst e
  rw [pk_us]
  show _ = nI ((x * 2 ^ 1 + s * 2 ^ (1 + ni)) / 2 ^ 0 % 2)
  rw [ic_V0_0]
  rfl
theorem ly_ns_loop {post : Int32 → SY → Prop} {V : Nat} (hok : ic_ok ni nl ng gl gr ln li bd) (hvs : ic_vs V (1 + ni + nl + ng) vs) (hp : post (nI (ic_N ln V nl)) (nI ni, nI nl, nI ng, bd, rs, tl, gl, gr, ln, li, vs, bi, tx, tz)) : ∀ d j n : Nat, j + d = nl → d < n → wY_nextState_11 post (nI ni) (nI nl) (nI ng) bd rs tl gl gr ln li vs bi tx tz n (nI (ic_N ln V j)) (nI j) := by
  obtain ⟨hni, hl1, hl4, hng, hgl, hgr, hln, _⟩ := hok
  intro d
  induction d with
  | zero =>
    intro j n hj hn
    obtain ⟨m, rfl⟩ : ∃ m, n = m + 1 := ⟨n - 1, by omega⟩
    have e : j = nl := by omega
    rw [e]
    exact br_t (nI_le (by omega) (by omega)) hp
  | succ d ih =>
    intro j n hj hn
    obtain ⟨m, rfl⟩ : ∃ m, n = m + 1 := ⟨n - 1, by omega⟩
    obtain ⟨l, el, hl⟩ := hln j (by omega)
    have hc : (nI j).toNatClampNeg = j := nI_clamp (by omega)
    refine br_f (nI_ge (by omega) (by omega)) ⟨vp_in_nI (by omega) (by omega), ?_⟩
    refine ly_lv (l := l) hvs (by rw [hc, el]) hl (by omega) ?_
    refine nm_r (e' := nI (ic_N ln V (j + 1))) ?_ (nm_r (nI_1 j) (ih (j + 1) m (by omega) (by omega)))
    rw [lx_shb (ic_lt2 _ _) (by omega), ib_orA _ (ic_N_lt ln V j)]
    show _ = nI (ic_N ln V j + ic_lt V (ln j).toNatClampNeg * 2 ^ j)
    rw [lx_cl el (by omega)]
theorem ly_ns {post : Int32 → SY → Prop} {s x : Nat} (hok : ic_ok ni nl ng gl gr ln li bd) (hs : s < 2 ^ nl) (hx : x < 2 ^ ni) (hp : ∀ vs, post (nI ((ic_nx ni nl ng gl gr ln) s x)) (nI ni, nI nl, nI ng, bd, rs, tl, gl, gr, ln, li, vs, bi, tx, tz)) : wpY_nextState post (nI ni, nI nl, nI ng, bd, rs, tl, gl, gr, ln, li, vs, bi, tx, tz) (nI s) (nI x) := by
  unfold wpY_nextState
  exact ly_ev hok hs hx (fun vs hvs => ⟨nl + 1, ly_ns_loop hok hvs (hp vs) nl 0 (nl + 1) (by omega) (by omega)⟩)
theorem ly_bv {post : Int32 → SY → Prop} {s x : Nat} (hok : ic_ok ni nl ng gl gr ln li bd) (hs : s < 2 ^ nl) (hx : x < 2 ^ ni) (hp : ∀ vs, post (nI ((ic_bv ni nl ng gl gr bd) s x)) (nI ni, nI nl, nI ng, bd, rs, tl, gl, gr, ln, li, vs, bi, tx, tz)) : wpY_badVal post (nI ni, nI nl, nI ng, bd, rs, tl, gl, gr, ln, li, vs, bi, tx, tz) (nI s) (nI x) := by
  have hok2 := hok
  obtain ⟨hni, hl1, hl4, hng, hgl, hgr, hln, hli, l, el, hl⟩ := hok2
  have hb : (ic_bv ni nl ng gl gr bd) s x = ic_lt (ic_V ni nl gl gr s x ng) l := by
    unfold ic_bv
    rw [lx_cl el (by omega)]
  unfold wpY_badVal
  refine ly_ev hok hs hx (fun vs hvs => ?_)
  refine ly_lv (l := l) hvs el hl (by omega) ?_
  rw [← hb]
  exact hp vs
theorem ly_is_loop {post : Int32 → Prop} (hok : ic_ok ni nl ng gl gr ln li bd) (hp : post (nI (ic_I li nl))) : ∀ d j n : Nat, j + d = nl → d < n → wY_initState_4 post (nI ni) (nI nl) (nI ng) bd rs tl gl gr ln li vs bi tx tz n (nI (ic_I li j)) (nI j) := by
  obtain ⟨hni, hl1, hl4, hng, hgl, hgr, hln, hli, _⟩ := hok
  have hb : ∀ j, j < nl → (li j).toNatClampNeg < 2 := by
    intro j hj
    obtain ⟨b, eb, hb⟩ := hli j hj
    rw [lx_cl eb (by omega)]; exact hb
  intro d
  induction d with
  | zero =>
    intro j n hj hn
    obtain ⟨m, rfl⟩ : ∃ m, n = m + 1 := ⟨n - 1, by omega⟩
    have e : j = nl := by omega
    rw [e]
    exact br_t (nI_le (by omega) (by omega)) hp
  | succ d ih =>
    intro j n hj hn
    obtain ⟨m, rfl⟩ : ∃ m, n = m + 1 := ⟨n - 1, by omega⟩
    obtain ⟨b, eb, hb2⟩ := hli j (by omega)
    have hc : (nI j).toNatClampNeg = j := nI_clamp (by omega)
    refine br_f (nI_ge (by omega) (by omega)) ⟨vp_in_nI (by omega) (by omega), ?_⟩
    refine nm_r (e' := nI (ic_I li (j + 1))) ?_ (nm_r (nI_1 j) (ih (j + 1) m (by omega) (by omega)))
    rw [hc, eb, ib_and1, Nat.mod_eq_of_lt hb2, lx_shb hb2 (by omega), ib_orA _ (ic_I_lt hb j (by omega))]
    show _ = nI (ic_I li j + (li j).toNatClampNeg * 2 ^ j)
    rw [lx_cl eb (by omega)]
theorem ly_is {post : Int32 → Prop} (hok : ic_ok ni nl ng gl gr ln li bd) (hp : post (nI (ic_I li nl))) : wpY_initState post (nI ni, nI nl, nI ng, bd, rs, tl, gl, gr, ln, li, vs, bi, tx, tz) :=
  ⟨nl + 1, ly_is_loop hok hp nl 0 (nl + 1) (by omega) (by omega)⟩
end
end
section
/-! Y's search: the masks, the distance, the trace -/
section
variable {ni nl ng : Nat} {bd rs tl : Int32} {gl gr ln li vs bi tx tz : Nat → Int32}
theorem ly_b1 {b : Nat} (hb : b < 2) : nI b = 1 ↔ b = 1 := nI_eq (b := 1) (by omega) (by omega)
theorem ly_m1 : ¬ (0 : Int32) ≤ -1 := by decide
theorem ly_bn16 {post : Int32 → SY → Prop} {J : Int32 → Int32 → Int32 → Int32 → Int32 → Int32 → Int32 → Int32 → (Nat → Int32) → (Nat → Int32) → (Nat → Int32) → (Nat → Int32) → (Nat → Int32) → (Nat → Int32) → (Nat → Int32) → (Nat → Int32) → Prop} {s : Nat} (hok : ic_ok ni nl ng gl gr ln li bd) (hs : s < (2 ^ nl)) (hJ : ∀ q vs, ck_Mw q (s + 1) 0 (fun s x => (ic_bv ni nl ng gl gr bd) s x = 1) (2 ^ ni) → J (nI q) (nI (s + 1)) (nI ni) (nI nl) (nI ng) bd rs tl gl gr ln li vs bi tx tz) : ∀ (d x n q : Nat) (vs : Nat → Int32), x + d = (2 ^ ni) → d < n → ck_Mw q s x (fun s x => (ic_bv ni nl ng gl gr bd) s x = 1) (2 ^ ni) → wY_badNow_16 post J (nI s) n (nI q) (nI x) (nI ni) (nI nl) (nI ng) bd rs tl gl gr ln li vs bi tx tz := by
  have hok2 := hok
  obtain ⟨hni, hl1, hl4, hng, _⟩ := hok2
  have b1 := ib_pow_le hl4
  have b2 := ib_pow_le8 hni
  have ep := ib_pow1 ni (by omega)
  intro d
  induction d with
  | zero =>
    intro x n q vs hx hn h
    obtain ⟨f, rfl⟩ : ∃ f, n = f + 1 := ⟨n - 1, by omega⟩
    have e : x = (2 ^ ni) := by omega
    subst e
    exact br_t (by rw [ep]; exact nI_le (by omega) (by omega)) (nm_r (nI_1 s) (hJ q vs (ck_Mw_row h)))
  | succ d ih =>
    intro x n q vs hx hn h
    obtain ⟨f, rfl⟩ : ∃ f, n = f + 1 := ⟨n - 1, by omega⟩
    have hx2 : x < (2 ^ ni) := by omega
    have hb : (ic_bv ni nl ng gl gr bd) s x < 2 := ic_lt2 _ _
    refine br_f (by rw [ep]; exact nI_ge (by omega) (by omega)) (ly_bv hok hs hx2 (fun vs' => ?_))
    by_cases hq : (ic_bv ni nl ng gl gr bd) s x = 1
    · exact br_t ((ly_b1 hb).2 hq) (nm_r (ck_or (by omega)) (nm_r (nI_1 x) (ih (x + 1) f _ vs' (by omega) (by omega) (ck_Mw_yes h (by omega) hq))))
    · exact br_f (fun e => hq ((ly_b1 hb).1 e)) (nm_r (nI_1 x) (ih (x + 1) f _ vs' (by omega) (by omega) (ck_Mw_no h hq)))
theorem ly_bn4 {post : Int32 → SY → Prop} (hok : ic_ok ni nl ng gl gr ln li bd) (hp : ∀ q vs, ck_Mk (2 ^ nl) q (fun t => ck_B (2 ^ ni) (ic_nx ni nl ng gl gr ln) (ic_bv ni nl ng gl gr bd) 0 t) → post (nI q) (nI ni, nI nl, nI ng, bd, rs, tl, gl, gr, ln, li, vs, bi, tx, tz)) : ∀ (d s n q : Nat) (vs : Nat → Int32), s + d = (2 ^ nl) → d < n → ck_Mw q s 0 (fun s x => (ic_bv ni nl ng gl gr bd) s x = 1) (2 ^ ni) → wY_badNow_4 post n (nI q) (nI s) (nI ni) (nI nl) (nI ng) bd rs tl gl gr ln li vs bi tx tz := by
  have hok2 := hok
  obtain ⟨hni, hl1, hl4, hng, _⟩ := hok2
  have b1 := ib_pow_le hl4
  have b2 := ib_pow_le8 hni
  have ep := ib_pow1 nl (by omega)
  intro d
  induction d with
  | zero =>
    intro s n q vs hs hn h
    obtain ⟨f, rfl⟩ : ∃ f, n = f + 1 := ⟨n - 1, by omega⟩
    have e : s = (2 ^ nl) := by omega
    subst e
    exact br_t (by rw [ep]; exact nI_le (by omega) (by omega)) (hp q vs (ck_Mw_end h))
  | succ d ih =>
    intro s n q vs hs hn h
    obtain ⟨f, rfl⟩ : ∃ f, n = f + 1 := ⟨n - 1, by omega⟩
    exact br_f (by rw [ep]; exact nI_ge (by omega) (by omega)) ⟨(2 ^ ni) + 1, ly_bn16 hok (by omega) (fun q' vs' h' => ih (s + 1) f q' vs' (by omega) (by omega) h') (2 ^ ni) 0 ((2 ^ ni) + 1) q vs (by omega) (by omega) h⟩
theorem ly_bn {post : Int32 → SY → Prop} (hok : ic_ok ni nl ng gl gr ln li bd) (hp : ∀ q vs, ck_Mk (2 ^ nl) q (fun t => ck_B (2 ^ ni) (ic_nx ni nl ng gl gr ln) (ic_bv ni nl ng gl gr bd) 0 t) → post (nI q) (nI ni, nI nl, nI ng, bd, rs, tl, gl, gr, ln, li, vs, bi, tx, tz)) : wpY_badNow post (nI ni, nI nl, nI ng, bd, rs, tl, gl, gr, ln, li, vs, bi, tx, tz) :=
  ⟨(2 ^ nl) + 1, ly_bn4 hok hp (2 ^ nl) 0 ((2 ^ nl) + 1) 0 vs (by omega) (by omega) ck_Mw_0⟩
theorem ly_pr17 {post : Int32 → SY → Prop} {J : Int32 → Int32 → Int32 → Int32 → Int32 → Int32 → Int32 → Int32 → (Nat → Int32) → (Nat → Int32) → (Nat → Int32) → (Nat → Int32) → (Nat → Int32) → (Nat → Int32) → (Nat → Int32) → (Nat → Int32) → Prop} {s k q0 : Nat} (hok : ic_ok ni nl ng gl gr ln li bd) (hs : s < (2 ^ nl)) (h0 : ck_Mk (2 ^ nl) q0 (fun t => ck_B (2 ^ ni) (ic_nx ni nl ng gl gr ln) (ic_bv ni nl ng gl gr bd) k t)) (hJ : ∀ q vs, ck_Mw q (s + 1) 0 (fun s x => ck_B (2 ^ ni) (ic_nx ni nl ng gl gr ln) (ic_bv ni nl ng gl gr bd) k ((ic_nx ni nl ng gl gr ln) s x)) (2 ^ ni) → J (nI q) (nI (s + 1)) (nI ni) (nI nl) (nI ng) bd rs tl gl gr ln li vs bi tx tz) : ∀ (d x n q : Nat) (vs : Nat → Int32), x + d = (2 ^ ni) → d < n → ck_Mw q s x (fun s x => ck_B (2 ^ ni) (ic_nx ni nl ng gl gr ln) (ic_bv ni nl ng gl gr bd) k ((ic_nx ni nl ng gl gr ln) s x)) (2 ^ ni) → wY_preds_17 post J (nI q0) (nI s) n (nI q) (nI x) (nI ni) (nI nl) (nI ng) bd rs tl gl gr ln li vs bi tx tz := by
  have hok2 := hok
  obtain ⟨hni, hl1, hl4, hng, _⟩ := hok2
  have b1 := ib_pow_le hl4
  have b2 := ib_pow_le8 hni
  have ep := ib_pow1 ni (by omega)
  intro d
  induction d with
  | zero =>
    intro x n q vs hx hn h
    obtain ⟨f, rfl⟩ : ∃ f, n = f + 1 := ⟨n - 1, by omega⟩
    have e : x = (2 ^ ni) := by omega
    subst e
    exact br_t (by rw [ep]; exact nI_le (by omega) (by omega)) (nm_r (nI_1 s) (hJ q vs (ck_Mw_row h)))
  | succ d ih =>
    intro x n q vs hx hn h
    obtain ⟨f, rfl⟩ : ∃ f, n = f + 1 := ⟨n - 1, by omega⟩
    have hx2 : x < (2 ^ ni) := by omega
    have hb : (ic_nx ni nl ng gl gr ln) s x < (2 ^ nl) := ic_nx_lt _ _ _ _ _ _ s x
    have hbit := ck_bit (n := (ic_nx ni nl ng gl gr ln) s x) h0.1 (by omega)
    have hB := h0.2 _ hb
    refine br_f (by rw [ep]; exact nI_ge (by omega) (by omega)) (ly_ns hok hs hx2 (fun vs' => ?_))
    by_cases hq : ck_B (2 ^ ni) (ic_nx ni nl ng gl gr ln) (ic_bv ni nl ng gl gr bd) k ((ic_nx ni nl ng gl gr ln) s x)
    · exact br_f (fun e => hbit.1 e (hB.2 hq)) (nm_r (ck_or (by omega)) (nm_r (nI_1 x) (ih (x + 1) f _ vs' (by omega) (by omega) (ck_Mw_yes h (by omega) hq))))
    · exact br_t (hbit.2 (fun e => hq (hB.1 e))) (nm_r (nI_1 x) (ih (x + 1) f _ vs' (by omega) (by omega) (ck_Mw_no h hq)))
theorem ly_pr4 {post : Int32 → SY → Prop} {k q0 : Nat} (hok : ic_ok ni nl ng gl gr ln li bd) (h0 : ck_Mk (2 ^ nl) q0 (fun t => ck_B (2 ^ ni) (ic_nx ni nl ng gl gr ln) (ic_bv ni nl ng gl gr bd) k t)) (hp : ∀ q vs, ck_Mk (2 ^ nl) q (fun t => ck_B (2 ^ ni) (ic_nx ni nl ng gl gr ln) (ic_bv ni nl ng gl gr bd) (k + 1) t) → post (nI q) (nI ni, nI nl, nI ng, bd, rs, tl, gl, gr, ln, li, vs, bi, tx, tz)) : ∀ (d s n q : Nat) (vs : Nat → Int32), s + d = (2 ^ nl) → d < n → ck_Mw q s 0 (fun s x => ck_B (2 ^ ni) (ic_nx ni nl ng gl gr ln) (ic_bv ni nl ng gl gr bd) k ((ic_nx ni nl ng gl gr ln) s x)) (2 ^ ni) → wY_preds_4 post (nI q0) n (nI q) (nI s) (nI ni) (nI nl) (nI ng) bd rs tl gl gr ln li vs bi tx tz := by
  have hok2 := hok
  obtain ⟨hni, hl1, hl4, hng, _⟩ := hok2
  have b1 := ib_pow_le hl4
  have b2 := ib_pow_le8 hni
  have ep := ib_pow1 nl (by omega)
  intro d
  induction d with
  | zero =>
    intro s n q vs hs hn h
    obtain ⟨f, rfl⟩ : ∃ f, n = f + 1 := ⟨n - 1, by omega⟩
    have e : s = (2 ^ nl) := by omega
    subst e
    exact br_t (by rw [ep]; exact nI_le (by omega) (by omega)) (hp q vs (ck_Mw_end h))
  | succ d ih =>
    intro s n q vs hs hn h
    obtain ⟨f, rfl⟩ : ∃ f, n = f + 1 := ⟨n - 1, by omega⟩
    exact br_f (by rw [ep]; exact nI_ge (by omega) (by omega)) ⟨(2 ^ ni) + 1, ly_pr17 hok (by omega) h0 (fun q' vs' h' => ih (s + 1) f q' vs' (by omega) (by omega) h') (2 ^ ni) 0 ((2 ^ ni) + 1) q vs (by omega) (by omega) h⟩
theorem ly_pr {post : Int32 → SY → Prop} {k q0 : Nat} (hok : ic_ok ni nl ng gl gr ln li bd) (h0 : ck_Mk (2 ^ nl) q0 (fun t => ck_B (2 ^ ni) (ic_nx ni nl ng gl gr ln) (ic_bv ni nl ng gl gr bd) k t)) (hp : ∀ q vs, ck_Mk (2 ^ nl) q (fun t => ck_B (2 ^ ni) (ic_nx ni nl ng gl gr ln) (ic_bv ni nl ng gl gr bd) (k + 1) t) → post (nI q) (nI ni, nI nl, nI ng, bd, rs, tl, gl, gr, ln, li, vs, bi, tx, tz)) : wpY_preds post (nI ni, nI nl, nI ng, bd, rs, tl, gl, gr, ln, li, vs, bi, tx, tz) (nI q0) :=
  ⟨(2 ^ nl) + 1, ly_pr4 hok h0 hp (2 ^ nl) 0 ((2 ^ nl) + 1) 0 vs (by omega) (by omega) ck_Mw_0⟩
/-- the masks below n -/
def ck_Bn (M N : Nat) (nx bv : Nat → Nat → Nat) (n : Nat) (a : Nat → Int32) : Prop := ∀ i, i < n → ∃ q : Nat, a i = nI q ∧ ck_Mk N q (fun t => ck_B M nx bv i t)
theorem ck_Bn_upd {M N : Nat} {nx bv : Nat → Nat → Nat} {n q : Nat} {a : Nat → Int32} (h : ck_Bn M N nx bv n a) (hq : ck_Mk N q (fun t => ck_B M nx bv n t)) : ck_Bn M N nx bv (n + 1) (upd a n (nI q)) := by
  intro i hi
  by_cases e : i = n
  · subst e
    exact ⟨q, pk_us, hq⟩
  · rw [pk_un e]
    exact h i (by omega)
theorem ly_19 {post : Int32 → SY → Prop} (hok : ic_ok ni nl ng gl gr ln li bd) (hE : ∀ vs bi, ck_Bn (2 ^ ni) (2 ^ nl) (ic_nx ni nl ng gl gr ln) (ic_bv ni nl ng gl gr bd) (2 ^ nl) bi → ∃ n, wY_check_58 post (nI (2 ^ nl)) (nI (ic_I li nl)) (nI ni) (nI nl) (nI ng) bd rs tl gl gr ln li vs bi tx tz n (-1) 0) : ∀ (d k n : Nat) (vs bi : Nat → Int32), k + 1 + d = (2 ^ nl) → d < n → ck_Bn (2 ^ ni) (2 ^ nl) (ic_nx ni nl ng gl gr ln) (ic_bv ni nl ng gl gr bd) (k + 1) bi → wY_check_19 post (nI (2 ^ nl)) n (nI (k + 1)) (nI ni) (nI nl) (nI ng) bd rs tl gl gr ln li vs bi tx tz := by
  have hok2 := hok
  obtain ⟨hni, hl1, hl4, hng, _⟩ := hok2
  have b1 := ib_pow_le hl4
  intro d
  induction d with
  | zero =>
    intro k n vs bi hk hn h
    obtain ⟨f, rfl⟩ : ∃ f, n = f + 1 := ⟨n - 1, by omega⟩
    have e : k + 1 = (2 ^ nl) := by omega
    rw [e] at h
    exact br_t (nI_le (by omega) (by omega)) (ly_is hok (hE vs bi h))
  | succ d ih =>
    intro k n vs bi hk hn h
    obtain ⟨f, rfl⟩ : ∃ f, n = f + 1 := ⟨n - 1, by omega⟩
    have hc : (nI k).toNatClampNeg = k := nI_clamp (by omega)
    have hc2 : (nI (k + 1)).toNatClampNeg = k + 1 := nI_clamp (by omega)
    obtain ⟨q, eq, hq⟩ := h k (by omega)
    refine br_f (nI_ge (by omega) (by omega)) ⟨by rw [nI_pred]; exact vp_in_nI (by omega) (by omega), ?_⟩
    rw [nI_pred, hc, eq]
    refine ly_pr hok hq (fun q' vs' hq' => ?_)
    exact ⟨vp_in_nI (by omega) (by omega), nm_r (e' := upd bi (k + 1) (nI q')) (by rw [hc2]) (nm_r (nI_1 (k + 1)) (ih (k + 1) f vs' _ (by omega) (by omega) (ck_Bn_upd h hq')))⟩
theorem ly_58 {post : Int32 → SY → Prop} {s0 : Nat} (hok : ic_ok ni nl ng gl gr ln li bd) (hs0 : s0 < (2 ^ nl)) (hbn : ck_Bn (2 ^ ni) (2 ^ nl) (ic_nx ni nl ng gl gr ln) (ic_bv ni nl ng gl gr bd) (2 ^ nl) bi) (h1 : (∀ j, j < (2 ^ nl) → ¬ ck_B (2 ^ ni) (ic_nx ni nl ng gl gr ln) (ic_bv ni nl ng gl gr bd) j s0) → wY_check_91 post (nI s0) (-1) (nI ni) (nI nl) (nI ng) bd rs tl gl gr ln li vs bi tx tz) (h2 : ∀ d, d < (2 ^ nl) → ck_L (2 ^ ni) (ic_nx ni nl ng gl gr ln) (ic_bv ni nl ng gl gr bd) d s0 → wY_check_91 post (nI s0) (nI d) (nI ni) (nI nl) (nI ng) bd rs tl gl gr ln li vs bi tx tz) : ∀ e k n : Nat, k + e = (2 ^ nl) → e + 1 < n → (∀ j, j < k → ¬ ck_B (2 ^ ni) (ic_nx ni nl ng gl gr ln) (ic_bv ni nl ng gl gr bd) j s0) → wY_check_58 post (nI (2 ^ nl)) (nI s0) (nI ni) (nI nl) (nI ng) bd rs tl gl gr ln li vs bi tx tz n (-1) (nI k) := by
  have hok2 := hok
  obtain ⟨hni, hl1, hl4, hng, _⟩ := hok2
  have b1 := ib_pow_le hl4
  intro e
  induction e with
  | zero =>
    intro k n hk hn h
    obtain ⟨f, rfl⟩ : ∃ f, n = f + 1 := ⟨n - 1, by omega⟩
    have e : k = (2 ^ nl) := by omega
    subst e
    exact br_t (nI_le (by omega) (by omega)) (h1 h)
  | succ e ih =>
    intro k n hk hn h
    obtain ⟨f, rfl⟩ : ∃ f, n = f + 1 + 1 := ⟨n - 2, by omega⟩
    have hc : (nI k).toNatClampNeg = k := nI_clamp (by omega)
    obtain ⟨q, eq, hq⟩ := hbn k (by omega)
    have hbit := ck_bit (n := s0) hq.1 (by omega)
    have hB := hq.2 _ hs0
    refine br_f (nI_ge (by omega) (by omega)) (br_f ly_m1 ⟨vp_in_nI (by omega) (by omega), ?_⟩)
    rw [hc, eq]
    by_cases hk2 : ck_B (2 ^ ni) (ic_nx ni nl ng gl gr ln) (ic_bv ni nl ng gl gr bd) k s0
    · have hr := h2 k (by omega) ⟨hk2, h⟩
      exact br_f (fun e => hbit.1 e (hB.2 hk2)) (nm_r (nI_1 k) (br_c (fun _ => hr) (fun _ => br_t (nI_pos' (by omega)) hr)))
    · exact br_t (hbit.2 (fun e => hk2 (hB.1 e))) (nm_r (nI_1 k) (ih (k + 1) (f + 1) (by omega) (by omega) (lt_s h hk2)))
theorem ly_123 {post : Int32 → SY → Prop} {J : Int32 → Int32 → Int32 → Int32 → Int32 → Int32 → Int32 → Int32 → (Nat → Int32) → (Nat → Int32) → (Nat → Int32) → (Nat → Int32) → (Nat → Int32) → (Nat → Int32) → (Nat → Int32) → (Nat → Int32) → Prop} {d t k s r : Nat} (hok : ic_ok ni nl ng gl gr ln li bd) (hs : s < (2 ^ nl)) (hd : d < (2 ^ nl)) (hk : d - t = k + 1) (ht : t ≤ d) (hbn : ck_Bn (2 ^ ni) (2 ^ nl) (ic_nx ni nl ng gl gr ln) (ic_bv ni nl ng gl gr bd) (2 ^ nl) bi) (hL : ck_L (2 ^ ni) (ic_nx ni nl ng gl gr ln) (ic_bv ni nl ng gl gr bd) (k + 1) s) (hr : ck_Ls (2 ^ ni) (ic_nx ni nl ng gl gr ln) (ic_bv ni nl ng gl gr bd) (k + 1) s r) (hC : ∀ vs, wY_check_178 post J (nI d) (nI s) (nI t) (nI r) (nI ni) (nI nl) (nI ng) bd rs tl gl gr ln li vs bi tx tz) : ∀ (e x n : Nat) (vs : Nat → Int32), x + e = r → e + 1 < n → wY_check_123 post J (nI d) (nI s) (nI t) n (-1) (nI x) (nI ni) (nI nl) (nI ng) bd rs tl gl gr ln li vs bi tx tz := by
  have hok2 := hok
  obtain ⟨hni, hl1, hl4, hng, _⟩ := hok2
  have b1 := ib_pow_le hl4
  have b2 := ib_pow_le8 hni
  have ep := ib_pow1 ni (by omega)
  have hr1 := hr.1
  have e5 : (nI d - nI t) - 1 = nI k := by rw [pk_sub ht, hk, nI_pred]
  have hc : (nI k).toNatClampNeg = k := nI_clamp (by omega)
  obtain ⟨q, eq, hq⟩ := hbn k (by omega)
  intro e
  induction e with
  | zero =>
    intro x n vs hx hn
    obtain ⟨f, rfl⟩ : ∃ f, n = f + 1 + 1 := ⟨n - 2, by omega⟩
    have e : x = r := by omega
    subst e
    have hb : (ic_nx ni nl ng gl gr ln) s x < (2 ^ nl) := ic_nx_lt _ _ _ _ _ _ s x
    have hbit := ck_bit (n := (ic_nx ni nl ng gl gr ln) s x) hq.1 (by omega)
    have hB := hq.2 _ hb
    have hF : ck_B (2 ^ ni) (ic_nx ni nl ng gl gr ln) (ic_bv ni nl ng gl gr bd) k ((ic_nx ni nl ng gl gr ln) s x) := (ck_FG hL.2 hr1).1 hr.2.1
    refine br_f (by rw [ep]; exact nI_ge (by omega) (by omega)) (br_f ly_m1 (ly_ns hok hs hr1 (fun vs' => ⟨by rw [e5]; exact vp_in_nI (by omega) (by omega), ?_⟩)))
    rw [e5, hc, eq]
    exact br_f (fun e => hbit.1 e (hB.2 hF)) (nm_r (nI_1 x) (br_c (fun _ => hC vs') (fun _ => br_t (nI_pos' (by omega)) (hC vs'))))
  | succ e ih =>
    intro x n vs hx hn
    obtain ⟨f, rfl⟩ : ∃ f, n = f + 1 := ⟨n - 1, by omega⟩
    have hx2 : x < (2 ^ ni) := by omega
    have hb : (ic_nx ni nl ng gl gr ln) s x < (2 ^ nl) := ic_nx_lt _ _ _ _ _ _ s x
    have hbit := ck_bit (n := (ic_nx ni nl ng gl gr ln) s x) hq.1 (by omega)
    have hB := hq.2 _ hb
    have hF : ¬ ck_B (2 ^ ni) (ic_nx ni nl ng gl gr ln) (ic_bv ni nl ng gl gr bd) k ((ic_nx ni nl ng gl gr ln) s x) := fun h => hr.2.2 x (by omega) ((ck_FG (k := k + 1) hL.2 hx2).2 h)
    refine br_f (by rw [ep]; exact nI_ge (by omega) (by omega)) (br_f ly_m1 (ly_ns hok hs hx2 (fun vs' => ⟨by rw [e5]; exact vp_in_nI (by omega) (by omega), ?_⟩)))
    rw [e5, hc, eq]
    exact br_t (hbit.2 (fun e => hF (hB.1 e))) (nm_r (nI_1 x) (ih (x + 1) f vs' (by omega) (by omega)))
theorem ly_226 {post : Int32 → SY → Prop} {d s r : Nat} (hok : ic_ok ni nl ng gl gr ln li bd) (hs : s < (2 ^ nl)) (hr : ck_Ls (2 ^ ni) (ic_nx ni nl ng gl gr ln) (ic_bv ni nl ng gl gr bd) 0 s r) (hC : ∀ vs, wY_check_264 post (nI d) (nI s) (nI r) (nI ni) (nI nl) (nI ng) bd rs tl gl gr ln li vs bi tx tz) : ∀ (e x n : Nat) (vs : Nat → Int32), x + e = r → e + 1 < n → wY_check_226 post (nI d) (nI s) n (-1) (nI x) (nI ni) (nI nl) (nI ng) bd rs tl gl gr ln li vs bi tx tz := by
  have hok2 := hok
  obtain ⟨hni, hl1, hl4, hng, _⟩ := hok2
  have b1 := ib_pow_le hl4
  have b2 := ib_pow_le8 hni
  have ep := ib_pow1 ni (by omega)
  have hr1 := hr.1
  intro e
  induction e with
  | zero =>
    intro x n vs hx hn
    obtain ⟨f, rfl⟩ : ∃ f, n = f + 1 + 1 := ⟨n - 2, by omega⟩
    have e : x = r := by omega
    subst e
    have hF : (ic_bv ni nl ng gl gr bd) s x = 1 := hr.2.1
    have hb : (ic_bv ni nl ng gl gr bd) s x < 2 := ic_lt2 _ _
    refine br_f (by rw [ep]; exact nI_ge (by omega) (by omega)) (br_f ly_m1 (ly_bv hok hs hr1 (fun vs' => ?_)))
    exact br_t ((ly_b1 hb).2 hF) (nm_r (nI_1 x) (br_c (fun _ => hC vs') (fun _ => br_t (nI_pos' (by omega)) (hC vs'))))
  | succ e ih =>
    intro x n vs hx hn
    obtain ⟨f, rfl⟩ : ∃ f, n = f + 1 := ⟨n - 1, by omega⟩
    have hx2 : x < (2 ^ ni) := by omega
    have hF : ¬ (ic_bv ni nl ng gl gr bd) s x = 1 := hr.2.2 x (by omega)
    have hb : (ic_bv ni nl ng gl gr bd) s x < 2 := ic_lt2 _ _
    refine br_f (by rw [ep]; exact nI_ge (by omega) (by omega)) (br_f ly_m1 (ly_bv hok hs hx2 (fun vs' => ?_)))
    exact br_f (fun e => hF ((ly_b1 hb).1 e)) (nm_r (nI_1 x) (ih (x + 1) f vs' (by omega) (by omega)))
theorem ly_111 {post : Int32 → SY → Prop} {d s0 : Nat} (hok : ic_ok ni nl ng gl gr ln li bd) (hs0 : s0 < (2 ^ nl)) (hd : d < (2 ^ nl)) (hbn : ck_Bn (2 ^ ni) (2 ^ nl) (ic_nx ni nl ng gl gr ln) (ic_bv ni nl ng gl gr bd) (2 ^ nl) bi) (hL : ck_L (2 ^ ni) (ic_nx ni nl ng gl gr ln) (ic_bv ni nl ng gl gr bd) d s0) (hp : ∀ vs tx tz, ck_Tr (2 ^ ni) (ic_nx ni nl ng gl gr ln) (ic_bv ni nl ng gl gr bd) d s0 (d + 1) tx tz → post 2 (nI ni, nI nl, nI ng, bd, 2, nI d, gl, gr, ln, li, vs, bi, tx, tz)) : ∀ (e t n : Nat) (vs tx tz : Nat → Int32), t + e = d → e < n → ck_Tr (2 ^ ni) (ic_nx ni nl ng gl gr ln) (ic_bv ni nl ng gl gr bd) d s0 t tx tz → wY_check_111 post (nI d) n (nI (ck_st (2 ^ ni) (ic_nx ni nl ng gl gr ln) (ic_bv ni nl ng gl gr bd) d s0 t)) (nI t) (nI ni) (nI nl) (nI ng) bd rs tl gl gr ln li vs bi tx tz := by
  have hok2 := hok
  obtain ⟨hni, hl1, hl4, hng, _⟩ := hok2
  have b1 := ib_pow_le hl4
  have b2 := ib_pow_le8 hni
  have hst : ∀ t, ck_st (2 ^ ni) (ic_nx ni nl ng gl gr ln) (ic_bv ni nl ng gl gr bd) d s0 t < (2 ^ nl) := ck_st_lt (fun s x => ic_nx_lt _ _ _ _ _ _ s x) hs0
  intro e
  induction e with
  | zero =>
    intro t n vs tx tz ht hn h
    obtain ⟨f, rfl⟩ : ∃ f, n = f + 1 := ⟨n - 1, by omega⟩
    have e : t = d := by omega
    subst e
    have hc : (nI t).toNatClampNeg = t := nI_clamp (by omega)
    have hLt := ck_st_L hL t (by omega)
    have hx := ck_x_sp hLt
    have hx1 := hx.1
    have ez : t - t = 0 := by omega
    rw [ez] at hx hx1
    refine br_t (nI_le (by omega) (by omega)) ⟨ck_x (2 ^ ni) (ic_nx ni nl ng gl gr ln) (ic_bv ni nl ng gl gr bd) 0 (ck_st (2 ^ ni) (ic_nx ni nl ng gl gr ln) (ic_bv ni nl ng gl gr bd) t s0 t) + 2, ly_226 hok (hst t) hx (fun vs' => ?_) (ck_x (2 ^ ni) (ic_nx ni nl ng gl gr ln) (ic_bv ni nl ng gl gr bd) 0 (ck_st (2 ^ ni) (ic_nx ni nl ng gl gr ln) (ic_bv ni nl ng gl gr bd) t s0 t)) 0 _ vs (by omega) (by omega)⟩
    refine br_t (nI_pos' (by omega)) ⟨vp_in_nI (by omega) (by omega), nm_r (e' := upd tx t (nI (ck_x (2 ^ ni) (ic_nx ni nl ng gl gr ln) (ic_bv ni nl ng gl gr bd) 0 (ck_st (2 ^ ni) (ic_nx ni nl ng gl gr ln) (ic_bv ni nl ng gl gr bd) t s0 t)))) (by rw [hc]) ⟨vp_in_nI (by omega) (by omega), nm_r (e' := upd tz t (nI (ck_st (2 ^ ni) (ic_nx ni nl ng gl gr ln) (ic_bv ni nl ng gl gr bd) t s0 t))) (by rw [hc]) (hp vs' _ _ (ck_Tr_upd h (by rw [ez]) rfl))⟩⟩
  | succ e ih =>
    intro t n vs tx tz ht hn h
    obtain ⟨f, rfl⟩ : ∃ f, n = f + 1 := ⟨n - 1, by omega⟩
    have hc : (nI t).toNatClampNeg = t := nI_clamp (by omega)
    have hLt := ck_st_L hL t (by omega)
    have hx := ck_x_sp hLt
    have hx1 := hx.1
    have hT := ck_Tr_upd (x := nI (ck_x (2 ^ ni) (ic_nx ni nl ng gl gr ln) (ic_bv ni nl ng gl gr bd) (d - t) (ck_st (2 ^ ni) (ic_nx ni nl ng gl gr ln) (ic_bv ni nl ng gl gr bd) d s0 t))) (y := nI (ck_st (2 ^ ni) (ic_nx ni nl ng gl gr ln) (ic_bv ni nl ng gl gr bd) d s0 t)) h rfl rfl
    have est : ck_st (2 ^ ni) (ic_nx ni nl ng gl gr ln) (ic_bv ni nl ng gl gr bd) d s0 (t + 1) = (ic_nx ni nl ng gl gr ln) (ck_st (2 ^ ni) (ic_nx ni nl ng gl gr ln) (ic_bv ni nl ng gl gr bd) d s0 t) (ck_x (2 ^ ni) (ic_nx ni nl ng gl gr ln) (ic_bv ni nl ng gl gr bd) (d - t) (ck_st (2 ^ ni) (ic_nx ni nl ng gl gr ln) (ic_bv ni nl ng gl gr bd) d s0 t)) := rfl
    obtain ⟨k, hk⟩ : ∃ k, d - t = k + 1 := ⟨d - t - 1, by omega⟩
    rw [hk] at hLt hx hx1 hT est
    refine br_f (nI_ge (by omega) (by omega)) ⟨ck_x (2 ^ ni) (ic_nx ni nl ng gl gr ln) (ic_bv ni nl ng gl gr bd) (k + 1) (ck_st (2 ^ ni) (ic_nx ni nl ng gl gr ln) (ic_bv ni nl ng gl gr bd) d s0 t) + 2, ly_123 hok (hst t) hd hk (by omega) hbn hLt hx (fun vs' => ?_) (ck_x (2 ^ ni) (ic_nx ni nl ng gl gr ln) (ic_bv ni nl ng gl gr bd) (k + 1) (ck_st (2 ^ ni) (ic_nx ni nl ng gl gr ln) (ic_bv ni nl ng gl gr bd) d s0 t)) 0 _ vs (by omega) (by omega)⟩
    refine br_t (nI_pos' (by omega)) ⟨vp_in_nI (by omega) (by omega), nm_r (e' := upd tx t (nI (ck_x (2 ^ ni) (ic_nx ni nl ng gl gr ln) (ic_bv ni nl ng gl gr bd) (k + 1) (ck_st (2 ^ ni) (ic_nx ni nl ng gl gr ln) (ic_bv ni nl ng gl gr bd) d s0 t)))) (by rw [hc]) ⟨vp_in_nI (by omega) (by omega), nm_r (e' := upd tz t (nI (ck_st (2 ^ ni) (ic_nx ni nl ng gl gr ln) (ic_bv ni nl ng gl gr bd) d s0 t))) (by rw [hc]) ?_⟩⟩
    refine ly_ns hok (hst t) hx1 (fun vs2 => ?_)
    rw [← est]
    exact nm_r (nI_1 t) (ih (t + 1) f vs2 _ _ (by omega) (by omega) hT)
theorem ly_check {post : Int32 → SY → Prop} (hok : ic_ok ni nl ng gl gr ln li bd) (h1 : (∀ j, j < (2 ^ nl) → ¬ ck_B (2 ^ ni) (ic_nx ni nl ng gl gr ln) (ic_bv ni nl ng gl gr bd) j (ic_I li nl)) → ∀ vs bi, post 1 (nI ni, nI nl, nI ng, bd, 1, tl, gl, gr, ln, li, vs, bi, tx, tz)) (h2 : ∀ d, d < (2 ^ nl) → ck_L (2 ^ ni) (ic_nx ni nl ng gl gr ln) (ic_bv ni nl ng gl gr bd) d (ic_I li nl) → ∀ vs bi tx tz, ck_Tr (2 ^ ni) (ic_nx ni nl ng gl gr ln) (ic_bv ni nl ng gl gr bd) d (ic_I li nl) (d + 1) tx tz → post 2 (nI ni, nI nl, nI ng, bd, 2, nI d, gl, gr, ln, li, vs, bi, tx, tz)) : wpY_check post (nI ni, nI nl, nI ng, bd, rs, tl, gl, gr, ln, li, vs, bi, tx, tz) := by
  have b1 := ib_pow_le hok.2.2.1
  have b3 : 2 ^ 1 ≤ 2 ^ nl := Nat.pow_le_pow_right (by decide) hok.2.1
  have hI := lx_I_lt hok
  unfold wpY_check
  refine nm_r (ib_pow1 nl (Nat.lt_of_le_of_lt hok.2.2.1 (by decide))) (ly_bn hok (fun q vs hq => ?_))
  refine nm_e ⟨(2 ^ nl), ly_19 hok (fun vs bi hbn => ?_) ((2 ^ nl) - 1) 0 (2 ^ nl) vs (upd bi 0 (nI q)) (by omega) (by omega) (ck_Bn_upd (fun i hi => absurd hi (by omega)) hq)⟩
  refine ⟨(2 ^ nl) + 2, ly_58 hok hI hbn (fun hn => br_f ly_m1 (h1 hn vs bi)) (fun d hd hL => ?_) (2 ^ nl) 0 ((2 ^ nl) + 2) (by omega) (by omega) (fun j hj => absurd hj (by omega))⟩
  exact br_t (nI_pos' (by omega)) ⟨d + 1, ly_111 hok hI hd hbn hL (fun vs tx tz hT => h2 d hd hL vs bi tx tz hT) d 0 (d + 1) vs tx tz (by omega) (by omega) (fun t ht => absurd ht (by omega))⟩
end
end
section
/-! literals, latches, edits, the constructor -/
section
variable {ni nl ng : Nat} {bd rs tl : Int32} {gl gr ln li ti ts ds vs bi tx tz : Nat → Int32}
theorem la_2F (ni nl ng : Nat) : 2 * (((1 + nI ni) + nI nl) + nI ng) = nI (2 * (1 + ni + nl + ng)) := by
  rw [ib_1, nI_add, nI_add, ib_2]
theorem la_xv {post : Int32 → Prop} {p : Int32} (hok : ic_ok ni nl ng gl gr ln li bd) (h1 : ic_li (1 + ni + nl + ng) p → post 1) (h0 : ¬ ic_li (1 + ni + nl + ng) p → post 0) : wpX_isValid post (nI ni, nI nl, nI ng, bd, rs, tl, gl, gr, ln, li, ti, ts, ds) p := by
  obtain ⟨hni, hl1, hl4, hng, _⟩ := hok
  by_cases hp : p < 0
  · exact br_t hp (h0 (fun ⟨l, e, hl⟩ => nI_pos (n := l) (by omega) (e ▸ hp)))
  · obtain ⟨j, hj, rfl⟩ := nI_of hp
    refine br_f hp ?_
    unfold wpX_variableCount
    dsimp only
    rw [la_2F]
    by_cases hl : j < 2 * (1 + ni + nl + ng)
    · exact br_f (nI_ge hl (by omega)) (h1 ⟨j, rfl, hl⟩)
    · refine br_t (nI_le (by omega) hj) (h0 (fun ⟨l, e, hl2⟩ => ?_))
      rw [nI_eq hj (by omega)] at e
      omega
theorem la_yv {post : Int32 → Prop} {p : Int32} (hok : ic_ok ni nl ng gl gr ln li bd) (h1 : ic_li (1 + ni + nl + ng) p → post 1) (h0 : ¬ ic_li (1 + ni + nl + ng) p → post 0) : wpY_valid post (nI ni, nI nl, nI ng, bd, rs, tl, gl, gr, ln, li, vs, bi, tx, tz) p := by
  obtain ⟨hni, hl1, hl4, hng, _⟩ := hok
  by_cases hp : p < 0
  · exact br_t hp (h0 (fun ⟨l, e, hl⟩ => nI_pos (n := l) (by omega) (e ▸ hp)))
  · obtain ⟨j, hj, rfl⟩ := nI_of hp
    refine br_f hp ?_
    rw [la_2F]
    by_cases hl : j < 2 * (1 + ni + nl + ng)
    · exact br_f (nI_ge hl (by omega)) (h1 ⟨j, rfl, hl⟩)
    · refine br_t (nI_le (by omega) hj) (h0 (fun ⟨l, e, hl2⟩ => ?_))
      rw [nI_eq hj (by omega)] at e
      omega
theorem la_and {p q : Int32} (hok : ic_ok ni nl ng gl gr ln li bd) (hg : ng < 16) (hp : ic_li (1 + ni + nl + ng) p) (hq : ic_li (1 + ni + nl + ng) q) : ic_ok ni nl (ng + 1) (upd gl ng p) (upd gr ng q) ln li bd := by
  obtain ⟨hni, hl1, hl4, hng, hgl, hgr, hln, hli, hbd⟩ := hok
  refine ⟨hni, hl1, hl4, by omega, ?_, ?_, fun j hj => ic_li_up (hln j hj) (by omega), hli, ic_li_up hbd (by omega)⟩
  · intro g hg2
    by_cases e : g = ng
    · subst e; rw [pk_us]; exact hp
    · rw [pk_un e]; exact hgl g (by omega)
  · intro g hg2
    by_cases e : g = ng
    · subst e; rw [pk_us]; exact hq
    · rw [pk_un e]; exact hgr g (by omega)
theorem la_latch {j b : Nat} {p : Int32} (hok : ic_ok ni nl ng gl gr ln li bd) (hp : ic_li (1 + ni + nl + ng) p) (hb : b < 2) : ic_ok ni nl ng gl gr (upd ln j p) (upd li j (nI b)) bd := by
  obtain ⟨hni, hl1, hl4, hng, hgl, hgr, hln, hli, hbd⟩ := hok
  refine ⟨hni, hl1, hl4, hng, hgl, hgr, ?_, ?_, hbd⟩
  · intro i hi
    by_cases e : i = j
    · subst e; rw [pk_us]; exact hp
    · rw [pk_un e]; exact hln i hi
  · intro i hi
    by_cases e : i = j
    · subst e; rw [pk_us]; exact ⟨b, rfl, hb⟩
    · rw [pk_un e]; exact hli i hi
theorem la_bad {p : Int32} (hok : ic_ok ni nl ng gl gr ln li bd) (hp : ic_li (1 + ni + nl + ng) p) : ic_ok ni nl ng gl gr ln li p := by
  obtain ⟨hni, hl1, hl4, hng, hgl, hgr, hln, hli, hbd⟩ := hok
  exact ⟨hni, hl1, hl4, hng, hgl, hgr, hln, hli, hp⟩
theorem la_ok0 {ni nl : Nat} (h1 : ni ≤ 3) (h2 : 1 ≤ nl) (h3 : nl ≤ 4) : ic_ok ni nl 0 (fun _ => 0) (fun _ => 0) (ic_l0 ni nl) (ic_i0 nl) 0 := by
  refine ⟨h1, h2, h3, by omega, fun g hg => absurd hg (by omega), fun g hg => absurd hg (by omega), ?_, ?_, ⟨0, rfl, by omega⟩⟩
  · intro j hj
    exact ⟨2 * (1 + ni + j), ic_l0_at ni nl j hj, by omega⟩
  · intro j hj
    exact ⟨0, ic_i0_at nl j, by omega⟩
theorem la_x85 {post : SX → Prop} {ni nl : Nat} (h3 : nl ≤ 4) (hp : post (nI ni, nI nl, 0, 0, 0, 0, (fun _ => 0), (fun _ => 0), ic_l0 ni nl, ic_i0 nl, (fun _ => 0), (fun _ => 0), (fun _ => 0))) : ∀ d j n : Nat, j + d = nl → d < n → wX_init_85 post (nI ni) (nI nl) 0 0 0 0 n (nI j) (fun _ => 0) (fun _ => 0) (ic_l0 ni j) (ic_i0 j) (fun _ => 0) (fun _ => 0) (fun _ => 0) := by
  intro d
  induction d with
  | zero =>
    intro j n hj hn
    obtain ⟨m, rfl⟩ : ∃ m, n = m + 1 := ⟨n - 1, by omega⟩
    have e : j = nl := by omega
    subst e
    exact br_t (nI_le (by omega) (by omega)) hp
  | succ d ih =>
    intro j n hj hn
    obtain ⟨m, rfl⟩ : ∃ m, n = m + 1 := ⟨n - 1, by omega⟩
    have hc : (nI j).toNatClampNeg = j := nI_clamp (by omega)
    have e2 : 2 * ((1 + nI ni) + nI j) = nI (2 * (1 + ni + j)) := by rw [ib_1, nI_add, ib_2]
    exact br_f (nI_ge (by omega) (by omega)) ⟨vp_in_nI (by omega) (by omega), nm_r (e' := ic_l0 ni (j + 1)) (by rw [hc, e2]; rfl) ⟨vp_in_nI (by omega) (by omega), nm_r (e' := ic_i0 (j + 1)) (by rw [hc]; rfl) (nm_r (nI_1 j) (ih (j + 1) m (by omega) (by omega)))⟩⟩
theorem la_y113 {post : SY → Prop} {ni nl : Nat} (h3 : nl ≤ 4) (hp : post (nI ni, nI nl, 0, 0, 0, 0, (fun _ => 0), (fun _ => 0), ic_l0 ni nl, ic_i0 nl, (fun _ => 0), (fun _ => 0), (fun _ => 0), (fun _ => 0))) : ∀ d j n : Nat, j + d = nl → d < n → wY_init_113 post (nI ni) (nI nl) 0 0 0 0 n (nI j) (fun _ => 0) (fun _ => 0) (ic_l0 ni j) (ic_i0 j) (fun _ => 0) (fun _ => 0) (fun _ => 0) (fun _ => 0) := by
  intro d
  induction d with
  | zero =>
    intro j n hj hn
    obtain ⟨m, rfl⟩ : ∃ m, n = m + 1 := ⟨n - 1, by omega⟩
    have e : j = nl := by omega
    subst e
    exact br_t (nI_le (by omega) (by omega)) hp
  | succ d ih =>
    intro j n hj hn
    obtain ⟨m, rfl⟩ : ∃ m, n = m + 1 := ⟨n - 1, by omega⟩
    have hc : (nI j).toNatClampNeg = j := nI_clamp (by omega)
    have e2 : 2 * ((1 + nI ni) + nI j) = nI (2 * (1 + ni + j)) := by rw [ib_1, nI_add, ib_2]
    exact br_f (nI_ge (by omega) (by omega)) ⟨vp_in_nI (by omega) (by omega), nm_r (e' := ic_l0 ni (j + 1)) (by rw [hc, e2]; rfl) ⟨vp_in_nI (by omega) (by omega), nm_r (e' := ic_i0 (j + 1)) (by rw [hc]; rfl) (nm_r (nI_1 j) (ih (j + 1) m (by omega) (by omega)))⟩⟩
theorem la_c3 (p : Int32) : ∃ ni : Nat, ni ≤ 3 ∧ (∀ post : Int32 → Prop, post (nI ni) → wpX_clamp post p 0 3) ∧ (∀ (post : SY → Prop) (p1 : Int32), wY_init_85 post p1 (nI ni) 0 0 0 0 0 0 (fun _ => 0) (fun _ => 0) (fun _ => 0) (fun _ => 0) (fun _ => 0) (fun _ => 0) (fun _ => 0) (fun _ => 0) → wpY_init post p p1) := by
  by_cases h0 : 0 ≤ p
  · by_cases h3 : p ≤ 3
    · obtain ⟨j, hj, rfl⟩ := nI_of2 (M := 3) (n := 3) (by decide) (Int32.not_lt.mpr h0) h3
      exact ⟨j, hj, fun post h => br_t h0 (br_t h3 h), fun post p1 h => br_t h0 (br_t h3 h)⟩
    · exact ⟨3, by omega, fun post h => br_t h0 (br_f h3 h), fun post p1 h => br_t h0 (br_f h3 h)⟩
  · exact ⟨0, by omega, fun post h => br_f h0 h, fun post p1 h => br_f h0 h⟩
theorem la_c4 (p : Int32) : ∃ nl : Nat, 1 ≤ nl ∧ nl ≤ 4 ∧ (∀ post : Int32 → Prop, post (nI nl) → wpX_clamp post p 1 4) ∧ (∀ (post : SY → Prop) (z : Int32), (∃ n, wY_init_113 post z (nI nl) 0 0 0 0 n 0 (fun _ => 0) (fun _ => 0) (fun _ => 0) (fun _ => 0) (fun _ => 0) (fun _ => 0) (fun _ => 0) (fun _ => 0)) → wY_init_85 post p z 0 0 0 0 0 0 (fun _ => 0) (fun _ => 0) (fun _ => 0) (fun _ => 0) (fun _ => 0) (fun _ => 0) (fun _ => 0) (fun _ => 0)) := by
  by_cases h0 : 1 ≤ p
  · by_cases h3 : p ≤ 4
    · have h1 : (0 : Int32) ≤ p := Int32.le_trans (by decide) h0
      obtain ⟨j, hj, rfl⟩ := nI_of2 (M := 4) (n := 4) (by decide) (Int32.not_lt.mpr h1) h3
      have h2 : nI 1 ≤ nI j := h0
      rw [nI_leI (by omega) (by omega)] at h2
      exact ⟨j, h2, hj, fun post h => br_t h0 (br_t h3 h), fun post z h => br_t h0 (br_t h3 h)⟩
    · exact ⟨4, by omega, by omega, fun post h => br_t h0 (br_f h3 h), fun post z h => br_t h0 (br_f h3 h)⟩
  · exact ⟨1, by omega, by omega, fun post h => br_f h0 h, fun post z h => br_f h0 h⟩
end
end
section
/-! the relation, and what is owed -/
def i_Rel (_ : Nat) (u : SX) (v : SY) : Prop := ∃ (ni nl ng : Nat) (bd rs tl tl' : Int32) (gl gr ln li ti ts ds vs bi tx tz : Nat → Int32), u = (nI ni, nI nl, nI ng, bd, rs, tl, gl, gr, ln, li, ti, ts, ds) ∧ v = (nI ni, nI nl, nI ng, bd, rs, tl', gl, gr, ln, li, vs, bi, tx, tz) ∧ ic_ok ni nl ng gl gr ln li bd ∧ (rs = 2 → ∃ d : Nat, d < 16 ∧ tl = nI d ∧ tl' = nI d ∧ ∀ t, t < d + 1 → ti t = tx t ∧ ts t = tz t)
theorem i_up {k : Nat} {u : SX} {v : SY} (h : i_Rel k u v) : i_Rel (k + 4) u v := h
theorem la_n02 {P : Prop} : (0 : Int32) = 2 → P := fun h => absurd h (by decide)
theorem la_n12 {P : Prop} : (1 : Int32) = 2 → P := fun h => absurd h (by decide)
theorem i_vc0 (k0 : Int32) (k1 : Int32) : wpX_init (fun u => wpY_init (fun v => i_Rel 2 u v) k0 k1) k0 k1 := by
  obtain ⟨ni, h1, hX, hY⟩ := la_c3 k0
  obtain ⟨nl, h2, h3, hX2, hY2⟩ := la_c4 k1
  unfold wpX_init
  refine hX _ (hX2 _ ⟨nl + 1, la_x85 h3 ?_ nl 0 (nl + 1) (by omega) (by omega)⟩)
  refine hY _ _ (hY2 _ _ ⟨nl + 1, la_y113 h3 ?_ nl 0 (nl + 1) (by omega) (by omega)⟩)
  exact ⟨ni, nl, 0, 0, 0, 0, 0, _, _, _, _, _, _, _, _, _, _, _, rfl, rfl, la_ok0 h1 h2 h3, la_n02⟩
theorem i_vc_addAnd {k : Nat} {u : SX} {v : SY} (I : i_Rel k u v) (hk : k + 4 ≤ 2050) (v1 : Int32) (v2 : Int32) : wpX_addAnd (fun r u' => wpY_addAnd (fun r' v' => r' = r ∧ i_Rel (k + 4) u' v') v v1 v2) u v1 v2 := by
  have I' := I
  obtain ⟨ni, nl, ng, bd, rs, tl, tl', gl, gr, ln, li, ti, ts, ds, vs, bi, tx, tz, rfl, rfl, hok, ht⟩ := I
  have hng := hok.2.2.2.1
  have hc : (nI ng).toNatClampNeg = ng := nI_clamp (by omega)
  have hok2 := hok
  obtain ⟨hni, hl1, hl4, _⟩ := hok2
  by_cases hg : ng < 16
  · have hg2 : ¬ nI ng = 16 := by
      intro e
      have e2 : nI ng = nI 16 := e
      rw [nI_eq (by omega) (by omega)] at e2
      omega
    refine br_f (nI_ge (b := 16) hg (by omega)) (la_xv hok (fun h1 => br_f (by decide) (la_xv hok (fun h2 => br_f (by decide) ?_) (fun h2 => br_t rfl ?_))) (fun h1 => br_t rfl ?_))
    · unfold wpX_variableCount
      dsimp only
      refine nm_r (la_2F ni nl ng) ⟨vp_in_nI hg (by omega), nm_r (e' := upd gl ng v1) (by rw [hc]) ⟨vp_in_nI hg (by omega), nm_r (e' := upd gr ng v2) (by rw [hc]) (nm_r (nI_1 ng) ?_)⟩⟩
      refine br_f hg2 (la_yv hok (fun _ => br_f (by decide) (la_yv hok (fun _ => br_f (by decide) ?_) (fun h => absurd h2 h))) (fun h => absurd h1 h))
      refine ⟨vp_in_nI hg (by omega), nm_r (e' := upd gl ng v1) (by rw [hc]) ⟨vp_in_nI hg (by omega), nm_r (e' := upd gr ng v2) (by rw [hc]) (nm_r (la_2F ni nl ng) (nm_r (nI_1 ng) ⟨rfl, ?_⟩))⟩⟩
      exact ⟨ni, nl, ng + 1, bd, 0, tl, tl', _, _, _, _, _, _, _, _, _, _, _, rfl, rfl, la_and hok hg h1 h2, la_n02⟩
    · exact br_f hg2 (la_yv hok (fun _ => br_f (by decide) (la_yv hok (fun h => absurd h h2) (fun _ => br_t rfl ⟨rfl, I'⟩))) (fun h => absurd h1 h))
    · exact br_f hg2 (la_yv hok (fun h => absurd h h1) (fun _ => br_t rfl ⟨rfl, I'⟩))
  · have e : ng = 16 := by omega
    subst e
    exact br_t (nI_le (a := 16) (by omega) (by omega)) (br_t rfl ⟨rfl, I'⟩)
theorem i_vc_setLatch {k : Nat} {u : SX} {v : SY} (I : i_Rel k u v) (hk : k + 4 ≤ 2050) (v1 : Int32) (v2 : Int32) (v3 : Int32) : wpX_setLatch (fun r u' => wpY_setLatch (fun r' v' => r' = r ∧ i_Rel (k + 4) u' v') v v1 v2 v3) u v1 v2 v3 := by
  have I' := I
  obtain ⟨ni, nl, ng, bd, rs, tl, tl', gl, gr, ln, li, ti, ts, ds, vs, bi, tx, tz, rfl, rfl, hok, ht⟩ := I
  have hok2 := hok
  obtain ⟨hni, hl1, hl4, hng, _⟩ := hok2
  unfold wpX_setLatch
  rcases pk_ix v1 (n := nl) (by omega) with h0 | h0 | ⟨j, hj, rfl⟩
  · exact br_t h0 (br_t rfl (br_t h0 ⟨rfl, I'⟩))
  · have h1 : ¬ v1 < 0 := fun h => absurd (Int32.lt_of_le_of_lt h0 h) (nI_pos (by omega))
    have h2 : ¬ v1 < nI nl := Int32.not_lt.mpr h0
    exact br_f h1 (br_t h0 (br_t rfl (br_f h1 (br_f h2 ⟨rfl, I'⟩))))
  · have hc : (nI j).toNatClampNeg = j := nI_clamp (by omega)
    have h1 : ¬ nI j < 0 := nI_pos (by omega)
    have h2 : nI j < nI nl := nI_lt hj (by omega)
    refine br_f h1 (br_f (nI_ge hj (by omega)) (br_f (by decide) (la_xv hok (fun hv => br_f (by decide) ?_) (fun hv => br_t rfl ?_))))
    · have hfin : ∀ b : Nat, b < 2 → i_Rel (k + 4) (nI ni, nI nl, nI ng, bd, 0, tl, gl, gr, upd ln j v2, upd li j (nI b), ti, ts, ds) (nI ni, nI nl, nI ng, bd, 0, tl', gl, gr, upd ln j v2, upd li j (nI b), vs, bi, tx, tz) := fun b hb => ⟨ni, nl, ng, bd, 0, tl, tl', _, _, _, _, _, _, _, _, _, _, _, rfl, rfl, la_latch hok hv hb, la_n02⟩
      by_cases e0 : v3 = 0
      · refine br_t e0 ⟨vp_in_nI (by omega) (by omega), nm_r (e' := upd ln j v2) (by rw [hc]) ⟨vp_in_nI (by omega) (by omega), nm_r (e' := upd li j (nI 0)) (by rw [hc, e0]; rfl) ?_⟩⟩
        exact br_f h1 (br_t h2 (la_yv hok (fun _ => br_f (by decide) (br_t e0 ⟨vp_in_nI (by omega) (by omega), nm_r (e' := upd ln j v2) (by rw [hc]) ⟨vp_in_nI (by omega) (by omega), nm_r (e' := upd li j (nI 0)) (by rw [hc, e0]; rfl) ⟨rfl, hfin 0 (by omega)⟩⟩⟩)) (fun h => absurd hv h)))
      · by_cases e1 : v3 = 1
        · refine br_f e0 (br_t e1 ⟨vp_in_nI (by omega) (by omega), nm_r (e' := upd ln j v2) (by rw [hc]) ⟨vp_in_nI (by omega) (by omega), nm_r (e' := upd li j (nI 1)) (by rw [hc, e1]; rfl) ?_⟩⟩)
          exact br_f h1 (br_t h2 (la_yv hok (fun _ => br_f (by decide) (br_f e0 (br_t e1 ⟨vp_in_nI (by omega) (by omega), nm_r (e' := upd ln j v2) (by rw [hc]) ⟨vp_in_nI (by omega) (by omega), nm_r (e' := upd li j (nI 1)) (by rw [hc, e1]; rfl) ⟨rfl, hfin 1 (by omega)⟩⟩⟩))) (fun h => absurd hv h)))
        · exact br_f e0 (br_f e1 (br_f h1 (br_t h2 (la_yv hok (fun _ => br_f (by decide) (br_f e0 (br_f e1 ⟨rfl, I'⟩))) (fun h => absurd hv h)))))
    · exact br_f h1 (br_t h2 (la_yv hok (fun h => absurd h hv) (fun _ => br_t rfl ⟨rfl, I'⟩)))
theorem i_vc_setBad {k : Nat} {u : SX} {v : SY} (I : i_Rel k u v) (hk : k + 4 ≤ 2050) (v1 : Int32) : wpX_setBad (fun r u' => wpY_setBad (fun r' v' => r' = r ∧ i_Rel (k + 4) u' v') v v1) u v1 := by
  have I' := I
  obtain ⟨ni, nl, ng, bd, rs, tl, tl', gl, gr, ln, li, ti, ts, ds, vs, bi, tx, tz, rfl, rfl, hok, ht⟩ := I
  unfold wpX_setBad wpY_setBad
  refine la_xv hok (fun hv => br_f (by decide) (la_yv hok (fun _ => br_f (by decide) ⟨rfl, ?_⟩) (fun h => absurd hv h))) (fun hv => br_t rfl (la_yv hok (fun h => absurd h hv) (fun _ => br_t rfl ⟨rfl, I'⟩)))
  exact ⟨ni, nl, ng, v1, 0, tl, tl', _, _, _, _, _, _, _, _, _, _, _, rfl, rfl, la_bad hok hv, la_n02⟩
theorem i_vc_check {k : Nat} {u : SX} {v : SY} (I : i_Rel k u v) (hk : k + 4 ≤ 2050) : wpX_check (fun r u' => wpY_check (fun r' v' => r' = r ∧ i_Rel (k + 4) u' v') v) u := by
  obtain ⟨ni, nl, ng, bd, rs, tl, tl', gl, gr, ln, li, ti, ts, ds, vs, bi, tx, tz, rfl, rfl, hok, ht⟩ := I
  have b1 := ib_pow_le hok.2.2.1
  refine lx_check hok (fun hn ds2 => ly_check hok (fun _ vs2 bi2 => ⟨rfl, ?_⟩) (fun d hd hL => absurd hL.1 (hn d hd))) (fun d hd hL ti2 ts2 ds2 hT => ly_check hok (fun hn => absurd hL.1 (hn d hd)) (fun d2 hd2 hL2 vs2 bi2 tx2 tz2 hT2 => ⟨rfl, ?_⟩))
  · exact ⟨ni, nl, ng, bd, 1, tl, tl', _, _, _, _, _, _, _, _, _, _, _, rfl, rfl, hok, la_n12⟩
  · have e := ck_uniq hL2 hL
    subst e
    exact ⟨ni, nl, ng, bd, 2, _, _, _, _, _, _, _, _, _, _, _, _, _, rfl, rfl, hok, fun _ => ⟨d2, by omega, rfl, rfl, fun t ht2 => ⟨(hT t ht2).1.trans (hT2 t ht2).1.symm, (hT t ht2).2.trans (hT2 t ht2).2.symm⟩⟩⟩
theorem i_vc_getResult {k : Nat} {u : SX} {v : SY} (I : i_Rel k u v) (hk : k + 4 ≤ 2050) : wpX_getResult (fun r => wpY_getResult (fun r' => r' = r ∧ i_Rel (k + 4) u v) v) u := by
  have I' := I
  obtain ⟨ni, nl, ng, bd, rs, tl, tl', gl, gr, ln, li, ti, ts, ds, vs, bi, tx, tz, rfl, rfl, hok, ht⟩ := I
  exact ⟨rfl, I'⟩
theorem i_vc_getTraceLength {k : Nat} {u : SX} {v : SY} (I : i_Rel k u v) (hk : k + 4 ≤ 2050) : wpX_getTraceLength (fun r => wpY_getTraceLength (fun r' => r' = r ∧ i_Rel (k + 4) u v) v) u := by
  have I' := I
  obtain ⟨ni, nl, ng, bd, rs, tl, tl', gl, gr, ln, li, ti, ts, ds, vs, bi, tx, tz, rfl, rfl, hok, ht⟩ := I
  by_cases h2 : rs = 2
  · obtain ⟨d, hd, e1, e2, hT⟩ := ht h2
    exact br_t h2 (br_t h2 ⟨e2.trans e1.symm, I'⟩)
  · exact br_f h2 (br_f h2 ⟨rfl, I'⟩)
theorem i_vc_getTraceInputs {k : Nat} {u : SX} {v : SY} (I : i_Rel k u v) (hk : k + 4 ≤ 2050) (v1 : Int32) : wpX_getTraceInputs (fun r => wpY_getTraceInputs (fun r' => r' = r ∧ i_Rel (k + 4) u v) v v1) u v1 := by
  have I' := I
  obtain ⟨ni, nl, ng, bd, rs, tl, tl', gl, gr, ln, li, ti, ts, ds, vs, bi, tx, tz, rfl, rfl, hok, ht⟩ := I
  unfold wpX_getTraceInputs
  by_cases h2 : rs = 2
  · obtain ⟨d, hd, rfl, rfl, hT⟩ := ht h2
    by_cases h0 : v1 < 0
    · exact br_t h2 (br_t h0 (br_t rfl (br_t h2 (br_t h0 ⟨rfl, I'⟩))))
    · obtain ⟨j, hj, rfl⟩ := nI_of h0
      have hc : (nI j).toNatClampNeg = j := nI_clamp hj
      by_cases hl : d < j
      · exact br_t h2 (br_f h0 (br_t (nI_lt hl hj) (br_t rfl (br_t h2 (br_f h0 (br_t (nI_lt hl hj) ⟨rfl, I'⟩))))))
      · have h3 : ¬ nI d < nI j := nI_nlt (by omega) (by omega)
        exact br_t h2 (br_f h0 (br_f h3 (br_f (by decide) ⟨vp_in_nI (by omega) (by omega), br_t h2 (br_f h0 (br_f h3 (br_t (nI_lt (b := 16) (by omega) (by omega)) ⟨vp_in_nI (by omega) (by omega), by rw [hc]; exact (hT j (by omega)).1.symm, I'⟩)))⟩)))
  · exact br_f h2 (br_t rfl (br_f h2 ⟨rfl, I'⟩))
theorem i_vc_getTraceState {k : Nat} {u : SX} {v : SY} (I : i_Rel k u v) (hk : k + 4 ≤ 2050) (v1 : Int32) : wpX_getTraceState (fun r => wpY_getTraceState (fun r' => r' = r ∧ i_Rel (k + 4) u v) v v1) u v1 := by
  have I' := I
  obtain ⟨ni, nl, ng, bd, rs, tl, tl', gl, gr, ln, li, ti, ts, ds, vs, bi, tx, tz, rfl, rfl, hok, ht⟩ := I
  unfold wpX_getTraceState
  by_cases h2 : rs = 2
  · obtain ⟨d, hd, rfl, rfl, hT⟩ := ht h2
    by_cases h0 : v1 < 0
    · exact br_t h2 (br_t h0 (br_t rfl (br_t h2 (br_t h0 ⟨rfl, I'⟩))))
    · obtain ⟨j, hj, rfl⟩ := nI_of h0
      have hc : (nI j).toNatClampNeg = j := nI_clamp hj
      by_cases hl : d < j
      · exact br_t h2 (br_f h0 (br_t (nI_lt hl hj) (br_t rfl (br_t h2 (br_f h0 (br_t (nI_lt hl hj) ⟨rfl, I'⟩))))))
      · have h3 : ¬ nI d < nI j := nI_nlt (by omega) (by omega)
        exact br_t h2 (br_f h0 (br_f h3 (br_f (by decide) ⟨vp_in_nI (by omega) (by omega), br_t h2 (br_f h0 (br_f h3 (br_t (nI_lt (b := 16) (by omega) (by omega)) ⟨vp_in_nI (by omega) (by omega), by rw [hc]; exact (hT j (by omega)).2.symm, I'⟩)))⟩)))
  · exact br_f h2 (br_t rfl (br_f h2 ⟨rfl, I'⟩))
theorem i_vc_evalLit {k : Nat} {u : SX} {v : SY} (I : i_Rel k u v) (hk : k + 4 ≤ 2050) (v1 : Int32) (v2 : Int32) (v3 : Int32) : wpX_evalLit (fun r => wpY_evalLit (fun r' v' => r' = r ∧ i_Rel (k + 4) u v') v v1 v2 v3) u v1 v2 v3 := by
  have I' := I
  obtain ⟨ni, nl, ng, bd, rs, tl, tl', gl, gr, ln, li, ti, ts, ds, vs, bi, tx, tz, rfl, rfl, hok, ht⟩ := I
  have hok2 := hok
  obtain ⟨hni, hl1, hl4, hng, _⟩ := hok2
  have es := pk_and v2 nl (ib_mask nl (by omega))
  have ex := pk_and v3 ni (ib_mask ni (by omega))
  have hs : v2.toBitVec.toNat % 2 ^ nl < 2 ^ nl := Nat.mod_lt _ (Nat.two_pow_pos _)
  have hx : v3.toBitVec.toNat % 2 ^ ni < 2 ^ ni := Nat.mod_lt _ (Nat.two_pow_pos _)
  unfold wpX_evalLit
  refine la_xv hok (fun hv => br_f (by decide) ?_) (fun hv => br_t rfl ?_)
  · obtain ⟨l, el, hl⟩ := hv
    refine lx_vv hok hs hx es ex (lx_lv (l := l) (lx_V31 hok hs hx) el (by omega) ?_)
    unfold wpY_evalLit
    refine la_yv hok (fun _ => br_f (by decide) (nm_r es (nm_r ex (ly_ev hok hs hx (fun vs2 hvs => ly_lv (l := l) hvs el hl (by omega) ⟨rfl, ?_⟩))))) (fun h => absurd ⟨l, el, hl⟩ h)
    exact ⟨ni, nl, ng, bd, rs, tl, tl', _, _, _, _, _, _, _, _, _, _, _, rfl, rfl, hok, ht⟩
  · unfold wpY_evalLit
    exact la_yv hok (fun h => absurd h hv) (fun _ => br_t rfl ⟨rfl, I'⟩)
theorem i_vc_getGateCount {k : Nat} {u : SX} {v : SY} (I : i_Rel k u v) (hk : k + 4 ≤ 2050) : wpX_getGateCount (fun r => wpY_getGateCount (fun r' => r' = r ∧ i_Rel (k + 4) u v) v) u := by
  have I' := I
  obtain ⟨ni, nl, ng, bd, rs, tl, tl', gl, gr, ln, li, ti, ts, ds, vs, bi, tx, tz, rfl, rfl, hok, ht⟩ := I
  exact ⟨rfl, I'⟩
theorem i_vc_getInputCount {k : Nat} {u : SX} {v : SY} (I : i_Rel k u v) (hk : k + 4 ≤ 2050) : wpX_getInputCount (fun r => wpY_getInputCount (fun r' => r' = r ∧ i_Rel (k + 4) u v) v) u := by
  have I' := I
  obtain ⟨ni, nl, ng, bd, rs, tl, tl', gl, gr, ln, li, ti, ts, ds, vs, bi, tx, tz, rfl, rfl, hok, ht⟩ := I
  exact ⟨rfl, I'⟩
theorem i_vc_getLatchCount {k : Nat} {u : SX} {v : SY} (I : i_Rel k u v) (hk : k + 4 ≤ 2050) : wpX_getLatchCount (fun r => wpY_getLatchCount (fun r' => r' = r ∧ i_Rel (k + 4) u v) v) u := by
  have I' := I
  obtain ⟨ni, nl, ng, bd, rs, tl, tl', gl, gr, ln, li, ti, ts, ds, vs, bi, tx, tz, rfl, rfl, hok, ht⟩ := I
  exact ⟨rfl, I'⟩
theorem i_vc_getLatchNext {k : Nat} {u : SX} {v : SY} (I : i_Rel k u v) (hk : k + 4 ≤ 2050) (v1 : Int32) : wpX_getLatchNext (fun r => wpY_getLatchNext (fun r' => r' = r ∧ i_Rel (k + 4) u v) v v1) u v1 := by
  have I' := I
  obtain ⟨ni, nl, ng, bd, rs, tl, tl', gl, gr, ln, li, ti, ts, ds, vs, bi, tx, tz, rfl, rfl, hok, ht⟩ := I
  have hl4 := hok.2.2.1
  unfold wpX_getLatchNext
  rcases pk_ix v1 (n := nl) (by omega) with h0 | h0 | ⟨j, hj, rfl⟩
  · exact br_t h0 (br_t rfl (br_t h0 ⟨rfl, I'⟩))
  · have h1 : ¬ v1 < 0 := fun h => absurd (Int32.lt_of_le_of_lt h0 h) (nI_pos (by omega))
    exact br_f h1 (br_t h0 (br_t rfl (br_f h1 (br_f (Int32.not_lt.mpr h0) ⟨rfl, I'⟩))))
  · have h1 : ¬ nI j < 0 := nI_pos (by omega)
    have hi : vp_in (nI j) 4 := vp_in_nI (by omega) (by omega)
    exact br_f h1 (br_f (nI_ge hj (by omega)) (br_f (by decide) ⟨hi, br_f h1 (br_t (nI_lt hj (by omega)) ⟨hi, rfl, I'⟩)⟩))
theorem i_vc_getLatchInit {k : Nat} {u : SX} {v : SY} (I : i_Rel k u v) (hk : k + 4 ≤ 2050) (v1 : Int32) : wpX_getLatchInit (fun r => wpY_getLatchInit (fun r' => r' = r ∧ i_Rel (k + 4) u v) v v1) u v1 := by
  have I' := I
  obtain ⟨ni, nl, ng, bd, rs, tl, tl', gl, gr, ln, li, ti, ts, ds, vs, bi, tx, tz, rfl, rfl, hok, ht⟩ := I
  have hl4 := hok.2.2.1
  unfold wpX_getLatchInit
  rcases pk_ix v1 (n := nl) (by omega) with h0 | h0 | ⟨j, hj, rfl⟩
  · exact br_t h0 (br_t rfl (br_t h0 ⟨rfl, I'⟩))
  · have h1 : ¬ v1 < 0 := fun h => absurd (Int32.lt_of_le_of_lt h0 h) (nI_pos (by omega))
    exact br_f h1 (br_t h0 (br_t rfl (br_f h1 (br_f (Int32.not_lt.mpr h0) ⟨rfl, I'⟩))))
  · have h1 : ¬ nI j < 0 := nI_pos (by omega)
    have hi : vp_in (nI j) 4 := vp_in_nI (by omega) (by omega)
    exact br_f h1 (br_f (nI_ge hj (by omega)) (br_f (by decide) ⟨hi, br_f h1 (br_t (nI_lt hj (by omega)) ⟨hi, rfl, I'⟩)⟩))
theorem i_vc_getBadLit {k : Nat} {u : SX} {v : SY} (I : i_Rel k u v) (hk : k + 4 ≤ 2050) : wpX_getBadLit (fun r => wpY_getBadLit (fun r' => r' = r ∧ i_Rel (k + 4) u v) v) u := by
  have I' := I
  obtain ⟨ni, nl, ng, bd, rs, tl, tl', gl, gr, ln, li, ti, ts, ds, vs, bi, tx, tz, rfl, rfl, hok, ht⟩ := I
  exact ⟨rfl, I'⟩
end
