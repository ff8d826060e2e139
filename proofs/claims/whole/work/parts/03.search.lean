/-! the pure search: B k s: a bad step in exactly k steps from s; L: k is the least such; F: inputs on a shortest way -/
def ck_B (M : Nat) (nx bv : Nat → Nat → Nat) : Nat → Nat → Prop
  | 0 => fun s => ∃ x, x < M ∧ bv s x = 1
  | k + 1 => fun s => ∃ x, x < M ∧ ck_B M nx bv k (nx s x)
def ck_L (M : Nat) (nx bv : Nat → Nat → Nat) (k s : Nat) : Prop := ck_B M nx bv k s ∧ ∀ j, j < k → ¬ ck_B M nx bv j s
def ck_F (M : Nat) (nx bv : Nat → Nat → Nat) : Nat → Nat → Nat → Prop
  | 0 => fun s x => bv s x = 1
  | k + 1 => fun s x => ck_L M nx bv k (nx s x)
def ck_G (M : Nat) (nx bv : Nat → Nat → Nat) : Nat → Nat → Nat → Prop
  | 0 => fun s x => bv s x = 1
  | k + 1 => fun s x => ck_B M nx bv k (nx s x)
theorem ck_uniq {M : Nat} {nx bv : Nat → Nat → Nat} {j k s : Nat} (h : ck_L M nx bv j s) (h2 : ck_L M nx bv k s) : j = k := by
  rcases Nat.lt_trichotomy j k with e | e | e
  · exact absurd h.1 (h2.2 j e)
  · exact e
  · exact absurd h2.1 (h.2 k e)
theorem ck_FG {M : Nat} {nx bv : Nat → Nat → Nat} {k s x : Nat} (h : ∀ j, j < k → ¬ ck_B M nx bv j s) (hx : x < M) : ck_F M nx bv k s x ↔ ck_G M nx bv k s x := by
  cases k with
  | zero => exact Iff.rfl
  | succ k => exact ⟨fun h2 => h2.1, fun h2 => ⟨h2, fun j hj hB => h (j + 1) (by omega) ⟨x, hx, hB⟩⟩⟩
theorem ck_BG {M : Nat} {nx bv : Nat → Nat → Nat} (k s : Nat) : ck_B M nx bv k s ↔ ∃ x, x < M ∧ ck_G M nx bv k s x := by
  cases k with
  | zero => exact Iff.rfl
  | succ k => exact Iff.rfl
theorem ck_BF {M : Nat} {nx bv : Nat → Nat → Nat} {k s : Nat} (h : ∀ j, j < k → ¬ ck_B M nx bv j s) : ck_B M nx bv k s ↔ ∃ x, x < M ∧ ck_F M nx bv k s x := by
  rw [ck_BG]
  exact ⟨fun ⟨x, hx, g⟩ => ⟨x, hx, (ck_FG h hx).2 g⟩, fun ⟨x, hx, g⟩ => ⟨x, hx, (ck_FG h hx).1 g⟩⟩
def ck_Ls (M : Nat) (nx bv : Nat → Nat → Nat) (k s x : Nat) : Prop := x < M ∧ ck_F M nx bv k s x ∧ ∀ y, y < x → ¬ ck_F M nx bv k s y
noncomputable def ck_x (M : Nat) (nx bv : Nat → Nat → Nat) (k s : Nat) : Nat := Classical.epsilon (fun x : Nat => ck_Ls M nx bv k s x)
theorem ck_x_eq {M : Nat} {nx bv : Nat → Nat → Nat} {k s x : Nat} (h : ck_Ls M nx bv k s x) : ck_x M nx bv k s = x := by
  have h2 : ck_Ls M nx bv k s (ck_x M nx bv k s) := Classical.epsilon_spec (p := fun x : Nat => ck_Ls M nx bv k s x) ⟨x, h⟩
  rcases Nat.lt_trichotomy (ck_x M nx bv k s) x with e | e | e
  · exact absurd h2.2.1 (h.2.2 _ e)
  · exact e
  · exact absurd h.2.1 (h2.2.2 _ e)
theorem ck_x_sp {M : Nat} {nx bv : Nat → Nat → Nat} {k s : Nat} (h : ck_L M nx bv k s) : ck_Ls M nx bv k s (ck_x M nx bv k s) := by
  obtain ⟨x, ⟨hx, hF⟩, hm⟩ := pk_least (fun x => x < M ∧ ck_F M nx bv k s x) ((ck_BF h.2).1 h.1)
  have h2 : ck_Ls M nx bv k s x := ⟨hx, hF, fun y hy hFy => hm y hy ⟨by omega, hFy⟩⟩
  rw [ck_x_eq h2]
  exact h2
noncomputable def ck_st (M : Nat) (nx bv : Nat → Nat → Nat) (d s0 : Nat) : Nat → Nat
  | 0 => s0
  | t + 1 => nx (ck_st M nx bv d s0 t) (ck_x M nx bv (d - t) (ck_st M nx bv d s0 t))
theorem ck_st_L {M : Nat} {nx bv : Nat → Nat → Nat} {d s0 : Nat} (h : ck_L M nx bv d s0) : ∀ t, t ≤ d → ck_L M nx bv (d - t) (ck_st M nx bv d s0 t) := by
  intro t
  induction t with
  | zero => intro _; exact h
  | succ t ih =>
    intro ht
    have h2 := (ck_x_sp (ih (by omega))).2.1
    obtain ⟨k, hk⟩ : ∃ k, d - t = k + 1 := ⟨d - t - 1, by omega⟩
    have e : d - (t + 1) = k := by omega
    rw [e]
    show ck_L M nx bv k (nx (ck_st M nx bv d s0 t) (ck_x M nx bv (d - t) (ck_st M nx bv d s0 t)))
    rw [hk] at h2 ⊢
    exact h2
theorem ck_st_lt {M N : Nat} {nx bv : Nat → Nat → Nat} {d s0 : Nat} (hn : ∀ s x, nx s x < N) (h : s0 < N) : ∀ t, ck_st M nx bv d s0 t < N := by
  intro t
  cases t with
  | zero => exact h
  | succ t => exact hn _ _
/-- what a cell of X's distances says when the distances below k are through -/
def ck_D (M : Nat) (nx bv : Nat → Nat → Nat) (k t : Nat) (v : Int32) : Prop := (∃ j, j < k ∧ v = nI j ∧ ck_L M nx bv j t) ∨ (v = -1 ∧ ∀ j, j < k → ¬ ck_B M nx bv j t)
theorem ck_D_iff {M : Nat} {nx bv : Nat → Nat → Nat} {k t j : Nat} {v : Int32} (h : ck_D M nx bv k t v) (hj : j < k) (hk : k ≤ 100) : v = nI j ↔ ck_L M nx bv j t := by
  rcases h with ⟨i, hi, rfl, hL⟩ | ⟨rfl, hn⟩
  · constructor
    · intro e
      rw [nI_eq (by omega) (by omega)] at e
      rw [← e]; exact hL
    · intro h2
      rw [ck_uniq hL h2]
  · constructor
    · intro e
      exact absurd e.symm (ib_nm1 (by omega))
    · intro h2
      exact absurd h2.1 (hn j hj)
theorem ck_D_m1 {M : Nat} {nx bv : Nat → Nat → Nat} {k t : Nat} {v : Int32} (h : ck_D M nx bv k t v) (hk : k ≤ 100) (hv : v = -1) : ∀ j, j < k → ¬ ck_B M nx bv j t := by
  rcases h with ⟨i, hi, e, hL⟩ | ⟨e, hn⟩
  · exact absurd (e.symm.trans hv) (ib_nm1 (by omega))
  · exact hn
theorem ck_D_up {M : Nat} {nx bv : Nat → Nat → Nat} {k t : Nat} {v : Int32} (h : ck_D M nx bv k t v) (hv : ¬ v = -1) : ck_D M nx bv (k + 1) t v := by
  rcases h with ⟨i, hi, e, hL⟩ | ⟨e, hn⟩
  · exact Or.inl ⟨i, by omega, e, hL⟩
  · exact absurd e hv
theorem ck_D_set {M : Nat} {nx bv : Nat → Nat → Nat} {k t : Nat} (h : ∀ j, j < k → ¬ ck_B M nx bv j t) (hB : ck_B M nx bv k t) : ck_D M nx bv (k + 1) t (nI k) := Or.inl ⟨k, by omega, rfl, hB, h⟩
theorem ck_D_no {M : Nat} {nx bv : Nat → Nat → Nat} {k t : Nat} (h : ∀ j, j < k → ¬ ck_B M nx bv j t) (hB : ¬ ck_B M nx bv k t) : ck_D M nx bv (k + 1) t (-1) := by
  refine Or.inr ⟨rfl, fun j hj => ?_⟩
  by_cases e : j = k
  · rw [e]; exact hB
  · exact h j (by omega)
/-- X's test of an input vector at distance k -/
def ck_X (nx bv : Nat → Nat → Nat) (a : Nat → Int32) : Nat → Nat → Nat → Prop
  | 0 => fun s x => bv s x = 1
  | k + 1 => fun s x => a (nx s x) = nI k
theorem ck_XF {M N : Nat} {nx bv : Nat → Nat → Nat} {a : Nat → Int32} {k s x : Nat} (hn : nx s x < N) (h : ∀ t, t < N → ∃ K, k ≤ K ∧ K ≤ 100 ∧ ck_D M nx bv K t (a t)) : ck_X nx bv a k s x ↔ ck_F M nx bv k s x := by
  cases k with
  | zero => exact Iff.rfl
  | succ k =>
    obtain ⟨K, h1, h2, h3⟩ := h _ hn
    exact ck_D_iff h3 h1 h2
/-- X's distances in the middle of a pass: the states below s are through with k -/
def ck_Dm (M N : Nat) (nx bv : Nat → Nat → Nat) (k s : Nat) (a : Nat → Int32) : Prop := ∀ t, t < N → ck_D M nx bv (if t < s then k + 1 else k) t (a t)
theorem ck_Dm_K {M N : Nat} {nx bv : Nat → Nat → Nat} {k s : Nat} {a : Nat → Int32} (h : ck_Dm M N nx bv k s a) (hk : k ≤ 99) : ∀ t, t < N → ∃ K, k ≤ K ∧ K ≤ 100 ∧ ck_D M nx bv K t (a t) := by
  intro t ht
  refine ⟨_, ?_, ?_, h t ht⟩
  · split <;> omega
  · split <;> omega
theorem ck_Dm_next {M N : Nat} {nx bv : Nat → Nat → Nat} {k : Nat} {a : Nat → Int32} (h : ck_Dm M N nx bv k N a) : ck_Dm M N nx bv (k + 1) 0 a := by
  intro t ht
  have h2 := h t ht
  rw [if_pos ht] at h2
  rw [if_neg (by omega)]
  exact h2
theorem ck_Dm_at {M N : Nat} {nx bv : Nat → Nat → Nat} {k s : Nat} {a : Nat → Int32} (h : ck_Dm M N nx bv k s a) (hs : s < N) : ck_D M nx bv k s (a s) := by
  have h2 := h s hs
  rw [if_neg (by omega)] at h2
  exact h2
theorem ck_Dm_keep {M N : Nat} {nx bv : Nat → Nat → Nat} {k s : Nat} {a : Nat → Int32} (h : ck_Dm M N nx bv k s a) (hs : ck_D M nx bv (k + 1) s (a s)) : ck_Dm M N nx bv k (s + 1) a := by
  intro t ht
  by_cases e : t = s
  · subst e
    rw [if_pos (by omega)]
    exact hs
  · have h2 := h t ht
    by_cases e2 : t < s
    · rw [if_pos e2] at h2
      rw [if_pos (by omega)]
      exact h2
    · rw [if_neg e2] at h2
      rw [if_neg (by omega)]
      exact h2
theorem ck_Dm_upd {M N : Nat} {nx bv : Nat → Nat → Nat} {k s : Nat} {a : Nat → Int32} (h : ck_Dm M N nx bv k s a) (z : Int32) (hs : ck_D M nx bv (k + 1) s z) : ck_Dm M N nx bv k (s + 1) (upd a s z) := by
  intro t ht
  by_cases e : t = s
  · subst e
    rw [if_pos (by omega), pk_us]
    exact hs
  · rw [pk_un e]
    have h2 := h t ht
    by_cases e2 : t < s
    · rw [if_pos e2] at h2
      rw [if_pos (by omega)]
      exact h2
    · rw [if_neg e2] at h2
      rw [if_neg (by omega)]
      exact h2
theorem ck_Dm_0 {M N : Nat} {nx bv : Nat → Nat → Nat} {a : Nat → Int32} (h : ∀ t, t < N → a t = -1) : ck_Dm M N nx bv 0 0 a := by
  intro t ht
  rw [if_neg (by omega)]
  exact Or.inr ⟨h t ht, fun j hj => absurd hj (by omega)⟩
/-- Y's masks: bit t says P t, for t < N -/
def ck_Mk (N m : Nat) (P : Nat → Prop) : Prop := m < 2 ^ 16 ∧ ∀ t, t < N → (m.testBit t = true ↔ P t)
/-- a mask under way: the states below s are through, s has been looked at with the inputs below x -/
def ck_Mw (m s x : Nat) (Q : Nat → Nat → Prop) (M : Nat) : Prop := m < 2 ^ 16 ∧ ∀ t, (m.testBit t = true ↔ (t < s ∧ ∃ y, y < M ∧ Q t y) ∨ (t = s ∧ ∃ y, y < x ∧ Q s y))
theorem ck_Mw_0 {Q : Nat → Nat → Prop} {M : Nat} : ck_Mw 0 0 0 Q M := by
  refine ⟨by decide, fun t => ?_⟩
  rw [Nat.zero_testBit]
  constructor
  · intro h; cases h
  · rintro (⟨h, _⟩ | ⟨_, y, h, _⟩) <;> omega
theorem ck_Mw_row {m s : Nat} {Q : Nat → Nat → Prop} {M : Nat} (h : ck_Mw m s M Q M) : ck_Mw m (s + 1) 0 Q M := by
  refine ⟨h.1, fun t => (h.2 t).trans ?_⟩
  constructor
  · rintro (⟨h1, h2⟩ | ⟨h1, h2⟩)
    · exact Or.inl ⟨by omega, h2⟩
    · subst h1; exact Or.inl ⟨by omega, h2⟩
  · rintro (⟨h1, h2⟩ | ⟨_, y, h2, _⟩)
    · by_cases e : t = s
      · subst e; exact Or.inr ⟨rfl, h2⟩
      · exact Or.inl ⟨by omega, h2⟩
    · omega
theorem ck_Mw_no {m s x : Nat} {Q : Nat → Nat → Prop} {M : Nat} (h : ck_Mw m s x Q M) (hq : ¬ Q s x) : ck_Mw m s (x + 1) Q M := by
  refine ⟨h.1, fun t => (h.2 t).trans ?_⟩
  constructor
  · rintro (h1 | ⟨h1, y, hy, hQ⟩)
    · exact Or.inl h1
    · exact Or.inr ⟨h1, y, by omega, hQ⟩
  · rintro (h1 | ⟨h1, y, hy, hQ⟩)
    · exact Or.inl h1
    · refine Or.inr ⟨h1, y, ?_, hQ⟩
      by_cases e : y = x
      · subst e; exact absurd hQ hq
      · omega
theorem ck_Mw_yes {m s x : Nat} {Q : Nat → Nat → Prop} {M : Nat} (h : ck_Mw m s x Q M) (hs : s < 16) (hq : Q s x) : ck_Mw (m ||| 2 ^ s) s (x + 1) Q M := by
  refine ⟨Nat.or_lt_two_pow h.1 (Nat.pow_lt_pow_right (by decide) hs), fun t => ?_⟩
  rw [Nat.testBit_or, Nat.testBit_two_pow, Bool.or_eq_true, h.2 t, decide_eq_true_iff]
  constructor
  · rintro ((h1 | ⟨h1, y, hy, hQ⟩) | h1)
    · exact Or.inl h1
    · exact Or.inr ⟨h1, y, by omega, hQ⟩
    · exact Or.inr ⟨h1.symm, x, by omega, hq⟩
  · rintro (h1 | ⟨h1, y, hy, hQ⟩)
    · exact Or.inl (Or.inl h1)
    · exact Or.inr h1.symm
theorem ck_Mw_end {m N : Nat} {Q : Nat → Nat → Prop} {M : Nat} (h : ck_Mw m N 0 Q M) : ck_Mk N m (fun t => ∃ y, y < M ∧ Q t y) := by
  refine ⟨h.1, fun t ht => (h.2 t).trans ?_⟩
  constructor
  · rintro (h1 | ⟨_, y, hy, _⟩)
    · exact h1.2
    · omega
  · intro h1
    exact Or.inl ⟨ht, h1⟩
/-- Y's test of a bit of a mask -/
theorem ck_bit {m n : Nat} (hm : m < 2 ^ 16) (hn : n < 32) : (nI m >>> (nI n &&& 31)) &&& 1 = 0 ↔ ¬ m.testBit n = true := by
  rw [ib_shr (by omega) hn, ib_and1, Nat.testBit_eq_decide_div_mod_eq, decide_eq_true_iff]
  have h2 : m / 2 ^ n % 2 < 2 := Nat.mod_lt _ (by decide)
  generalize m / 2 ^ n % 2 = q at h2
  have e : nI q = 0 ↔ q = 0 := by
    rw [← nI_0]; exact nI_eq (by omega) (by omega)
  rw [e]
  omega
theorem ck_or {m s : Nat} (hs : s < 16) : nI m ||| ((1 : Int32) <<< (nI s &&& 31)) = nI (m ||| 2 ^ s) := by
  have h : (1 : Int32) <<< (nI s &&& 31) = nI (1 * 2 ^ s) := by
    show nI 1 <<< (nI s &&& 31) = _
    have h3 : 2 ^ s < 2 ^ 16 := Nat.pow_lt_pow_right (by decide) hs
    exact ib_shl (by omega) (by omega)
  rw [h, ib_or, Nat.one_mul]
