/-! Y's search: the masks, the distance, the trace -/
section
variable {ni nl ng : Nat} {bd rs tl : Int32} {gl gr ln li vs bi tx tz : Nat → Int32}
theorem ly_b1 {b : Nat} (hb : b < 2) : nI b = 1 ↔ b = 1 := nI_eq (b := 1) (by omega) (by omega)
theorem ly_m1 : ¬ (0 : Int32) ≤ -1 := by decide
theorem ly_bn16 {post : Int32 → SY → Prop} {J : Int32 → Int32 → Int32 → Int32 → Int32 → Int32 → Int32 → Int32 → (Nat → Int32) → (Nat → Int32) → (Nat → Int32) → (Nat → Int32) → (Nat → Int32) → (Nat → Int32) → (Nat → Int32) → (Nat → Int32) → Prop} {s : Nat} (hok : ic_ok ni nl ng gl gr ln li bd) (hs : s < (2 ^ nl)) (hJ : ∀ q vs, ck_Mw q (s + 1) 0 (fun s x => (ic_bv ni nl ng gl gr bd) s x = 1) (2 ^ ni) → J (nI q) (nI (s + 1)) (nI ni) (nI nl) (nI ng) bd rs tl gl gr ln li vs bi tx tz) : ∀ (d x n q : Nat) (vs : Nat → Int32), x + d = (2 ^ ni) → d < n → ck_Mw q s x (fun s x => (ic_bv ni nl ng gl gr bd) s x = 1) (2 ^ ni) → wY_badNow_16 post J (nI s) n (nI q) (nI x) (nI ni) (nI nl) (nI ng) bd rs tl gl gr ln li vs bi tx tz := by
  have hok2 := hok
  obtain ⟨hni, hl1, hl4, hng, _⟩ := hok2
  have b1 := ib_pow_le hl4
  have b2 := ib_pow_le8 hni
  have ep := ib_pow1 ni (by omega)
  intro d
  induction d with
  | zero =>
    intro x n q vs hx hn h
    obtain ⟨f, rfl⟩ : ∃ f, n = f + 1 := ⟨n - 1, by omega⟩
    have e : x = (2 ^ ni) := by omega
    subst e
    exact br_t (by rw [ep]; exact nI_le (by omega) (by omega)) (nm_r (nI_1 s) (hJ q vs (ck_Mw_row h)))
  | succ d ih =>
    intro x n q vs hx hn h
    obtain ⟨f, rfl⟩ : ∃ f, n = f + 1 := ⟨n - 1, by omega⟩
    have hx2 : x < (2 ^ ni) := by omega
    have hb : (ic_bv ni nl ng gl gr bd) s x < 2 := ic_lt2 _ _
    refine br_f (by rw [ep]; exact nI_ge (by omega) (by omega)) (ly_bv hok hs hx2 (fun vs' => ?_))
    by_cases hq : (ic_bv ni nl ng gl gr bd) s x = 1
    · exact br_t ((ly_b1 hb).2 hq) (nm_r (ck_or (by omega)) (nm_r (nI_1 x) (ih (x + 1) f _ vs' (by omega) (by omega) (ck_Mw_yes h (by omega) hq))))
    · exact br_f (fun e => hq ((ly_b1 hb).1 e)) (nm_r (nI_1 x) (ih (x + 1) f _ vs' (by omega) (by omega) (ck_Mw_no h hq)))
theorem ly_bn4 {post : Int32 → SY → Prop} (hok : ic_ok ni nl ng gl gr ln li bd) (hp : ∀ q vs, ck_Mk (2 ^ nl) q (fun t => ck_B (2 ^ ni) (ic_nx ni nl ng gl gr ln) (ic_bv ni nl ng gl gr bd) 0 t) → post (nI q) (nI ni, nI nl, nI ng, bd, rs, tl, gl, gr, ln, li, vs, bi, tx, tz)) : ∀ (d s n q : Nat) (vs : Nat → Int32), s + d = (2 ^ nl) → d < n → ck_Mw q s 0 (fun s x => (ic_bv ni nl ng gl gr bd) s x = 1) (2 ^ ni) → wY_badNow_4 post n (nI q) (nI s) (nI ni) (nI nl) (nI ng) bd rs tl gl gr ln li vs bi tx tz := by
  have hok2 := hok
  obtain ⟨hni, hl1, hl4, hng, _⟩ := hok2
  have b1 := ib_pow_le hl4
  have b2 := ib_pow_le8 hni
  have ep := ib_pow1 nl (by omega)
  intro d
  induction d with
  | zero =>
    intro s n q vs hs hn h
    obtain ⟨f, rfl⟩ : ∃ f, n = f + 1 := ⟨n - 1, by omega⟩
    have e : s = (2 ^ nl) := by omega
    subst e
    exact br_t (by rw [ep]; exact nI_le (by omega) (by omega)) (hp q vs (ck_Mw_end h))
  | succ d ih =>
    intro s n q vs hs hn h
    obtain ⟨f, rfl⟩ : ∃ f, n = f + 1 := ⟨n - 1, by omega⟩
    exact br_f (by rw [ep]; exact nI_ge (by omega) (by omega)) ⟨(2 ^ ni) + 1, ly_bn16 hok (by omega) (fun q' vs' h' => ih (s + 1) f q' vs' (by omega) (by omega) h') (2 ^ ni) 0 ((2 ^ ni) + 1) q vs (by omega) (by omega) h⟩
theorem ly_bn {post : Int32 → SY → Prop} (hok : ic_ok ni nl ng gl gr ln li bd) (hp : ∀ q vs, ck_Mk (2 ^ nl) q (fun t => ck_B (2 ^ ni) (ic_nx ni nl ng gl gr ln) (ic_bv ni nl ng gl gr bd) 0 t) → post (nI q) (nI ni, nI nl, nI ng, bd, rs, tl, gl, gr, ln, li, vs, bi, tx, tz)) : wpY_badNow post (nI ni, nI nl, nI ng, bd, rs, tl, gl, gr, ln, li, vs, bi, tx, tz) :=
  ⟨(2 ^ nl) + 1, ly_bn4 hok hp (2 ^ nl) 0 ((2 ^ nl) + 1) 0 vs (by omega) (by omega) ck_Mw_0⟩
theorem ly_pr17 {post : Int32 → SY → Prop} {J : Int32 → Int32 → Int32 → Int32 → Int32 → Int32 → Int32 → Int32 → (Nat → Int32) → (Nat → Int32) → (Nat → Int32) → (Nat → Int32) → (Nat → Int32) → (Nat → Int32) → (Nat → Int32) → (Nat → Int32) → Prop} {s k q0 : Nat} (hok : ic_ok ni nl ng gl gr ln li bd) (hs : s < (2 ^ nl)) (h0 : ck_Mk (2 ^ nl) q0 (fun t => ck_B (2 ^ ni) (ic_nx ni nl ng gl gr ln) (ic_bv ni nl ng gl gr bd) k t)) (hJ : ∀ q vs, ck_Mw q (s + 1) 0 (fun s x => ck_B (2 ^ ni) (ic_nx ni nl ng gl gr ln) (ic_bv ni nl ng gl gr bd) k ((ic_nx ni nl ng gl gr ln) s x)) (2 ^ ni) → J (nI q) (nI (s + 1)) (nI ni) (nI nl) (nI ng) bd rs tl gl gr ln li vs bi tx tz) : ∀ (d x n q : Nat) (vs : Nat → Int32), x + d = (2 ^ ni) → d < n → ck_Mw q s x (fun s x => ck_B (2 ^ ni) (ic_nx ni nl ng gl gr ln) (ic_bv ni nl ng gl gr bd) k ((ic_nx ni nl ng gl gr ln) s x)) (2 ^ ni) → wY_preds_17 post J (nI q0) (nI s) n (nI q) (nI x) (nI ni) (nI nl) (nI ng) bd rs tl gl gr ln li vs bi tx tz := by
  have hok2 := hok
  obtain ⟨hni, hl1, hl4, hng, _⟩ := hok2
  have b1 := ib_pow_le hl4
  have b2 := ib_pow_le8 hni
  have ep := ib_pow1 ni (by omega)
  intro d
  induction d with
  | zero =>
    intro x n q vs hx hn h
    obtain ⟨f, rfl⟩ : ∃ f, n = f + 1 := ⟨n - 1, by omega⟩
    have e : x = (2 ^ ni) := by omega
    subst e
    exact br_t (by rw [ep]; exact nI_le (by omega) (by omega)) (nm_r (nI_1 s) (hJ q vs (ck_Mw_row h)))
  | succ d ih =>
    intro x n q vs hx hn h
    obtain ⟨f, rfl⟩ : ∃ f, n = f + 1 := ⟨n - 1, by omega⟩
    have hx2 : x < (2 ^ ni) := by omega
    have hb : (ic_nx ni nl ng gl gr ln) s x < (2 ^ nl) := ic_nx_lt _ _ _ _ _ _ s x
    have hbit := ck_bit (n := (ic_nx ni nl ng gl gr ln) s x) h0.1 (by omega)
    have hB := h0.2 _ hb
    refine br_f (by rw [ep]; exact nI_ge (by omega) (by omega)) (ly_ns hok hs hx2 (fun vs' => ?_))
    by_cases hq : ck_B (2 ^ ni) (ic_nx ni nl ng gl gr ln) (ic_bv ni nl ng gl gr bd) k ((ic_nx ni nl ng gl gr ln) s x)
    · exact br_f (fun e => hbit.1 e (hB.2 hq)) (nm_r (ck_or (by omega)) (nm_r (nI_1 x) (ih (x + 1) f _ vs' (by omega) (by omega) (ck_Mw_yes h (by omega) hq))))
    · exact br_t (hbit.2 (fun e => hq (hB.1 e))) (nm_r (nI_1 x) (ih (x + 1) f _ vs' (by omega) (by omega) (ck_Mw_no h hq)))
theorem ly_pr4 {post : Int32 → SY → Prop} {k q0 : Nat} (hok : ic_ok ni nl ng gl gr ln li bd) (h0 : ck_Mk (2 ^ nl) q0 (fun t => ck_B (2 ^ ni) (ic_nx ni nl ng gl gr ln) (ic_bv ni nl ng gl gr bd) k t)) (hp : ∀ q vs, ck_Mk (2 ^ nl) q (fun t => ck_B (2 ^ ni) (ic_nx ni nl ng gl gr ln) (ic_bv ni nl ng gl gr bd) (k + 1) t) → post (nI q) (nI ni, nI nl, nI ng, bd, rs, tl, gl, gr, ln, li, vs, bi, tx, tz)) : ∀ (d s n q : Nat) (vs : Nat → Int32), s + d = (2 ^ nl) → d < n → ck_Mw q s 0 (fun s x => ck_B (2 ^ ni) (ic_nx ni nl ng gl gr ln) (ic_bv ni nl ng gl gr bd) k ((ic_nx ni nl ng gl gr ln) s x)) (2 ^ ni) → wY_preds_4 post (nI q0) n (nI q) (nI s) (nI ni) (nI nl) (nI ng) bd rs tl gl gr ln li vs bi tx tz := by
  have hok2 := hok
  obtain ⟨hni, hl1, hl4, hng, _⟩ := hok2
  have b1 := ib_pow_le hl4
  have b2 := ib_pow_le8 hni
  have ep := ib_pow1 nl (by omega)
  intro d
  induction d with
  | zero =>
    intro s n q vs hs hn h
    obtain ⟨f, rfl⟩ : ∃ f, n = f + 1 := ⟨n - 1, by omega⟩
    have e : s = (2 ^ nl) := by omega
    subst e
    exact br_t (by rw [ep]; exact nI_le (by omega) (by omega)) (hp q vs (ck_Mw_end h))
  | succ d ih =>
    intro s n q vs hs hn h
    obtain ⟨f, rfl⟩ : ∃ f, n = f + 1 := ⟨n - 1, by omega⟩
    exact br_f (by rw [ep]; exact nI_ge (by omega) (by omega)) ⟨(2 ^ ni) + 1, ly_pr17 hok (by omega) h0 (fun q' vs' h' => ih (s + 1) f q' vs' (by omega) (by omega) h') (2 ^ ni) 0 ((2 ^ ni) + 1) q vs (by omega) (by omega) h⟩
theorem ly_pr {post : Int32 → SY → Prop} {k q0 : Nat} (hok : ic_ok ni nl ng gl gr ln li bd) (h0 : ck_Mk (2 ^ nl) q0 (fun t => ck_B (2 ^ ni) (ic_nx ni nl ng gl gr ln) (ic_bv ni nl ng gl gr bd) k t)) (hp : ∀ q vs, ck_Mk (2 ^ nl) q (fun t => ck_B (2 ^ ni) (ic_nx ni nl ng gl gr ln) (ic_bv ni nl ng gl gr bd) (k + 1) t) → post (nI q) (nI ni, nI nl, nI ng, bd, rs, tl, gl, gr, ln, li, vs, bi, tx, tz)) : wpY_preds post (nI ni, nI nl, nI ng, bd, rs, tl, gl, gr, ln, li, vs, bi, tx, tz) (nI q0) :=
  ⟨(2 ^ nl) + 1, ly_pr4 hok h0 hp (2 ^ nl) 0 ((2 ^ nl) + 1) 0 vs (by omega) (by omega) ck_Mw_0⟩
/-- the masks below n -/
def ck_Bn (M N : Nat) (nx bv : Nat → Nat → Nat) (n : Nat) (a : Nat → Int32) : Prop := ∀ i, i < n → ∃ q : Nat, a i = nI q ∧ ck_Mk N q (fun t => ck_B M nx bv i t)
theorem ck_Bn_upd {M N : Nat} {nx bv : Nat → Nat → Nat} {n q : Nat} {a : Nat → Int32} (h : ck_Bn M N nx bv n a) (hq : ck_Mk N q (fun t => ck_B M nx bv n t)) : ck_Bn M N nx bv (n + 1) (upd a n (nI q)) := by
  intro i hi
  by_cases e : i = n
  · subst e
    exact ⟨q, pk_us, hq⟩
  · rw [pk_un e]
    exact h i (by omega)
theorem ly_19 {post : Int32 → SY → Prop} (hok : ic_ok ni nl ng gl gr ln li bd) (hE : ∀ vs bi, ck_Bn (2 ^ ni) (2 ^ nl) (ic_nx ni nl ng gl gr ln) (ic_bv ni nl ng gl gr bd) (2 ^ nl) bi → ∃ n, wY_check_58 post (nI (2 ^ nl)) (nI (ic_I li nl)) (nI ni) (nI nl) (nI ng) bd rs tl gl gr ln li vs bi tx tz n (-1) 0) : ∀ (d k n : Nat) (vs bi : Nat → Int32), k + 1 + d = (2 ^ nl) → d < n → ck_Bn (2 ^ ni) (2 ^ nl) (ic_nx ni nl ng gl gr ln) (ic_bv ni nl ng gl gr bd) (k + 1) bi → wY_check_19 post (nI (2 ^ nl)) n (nI (k + 1)) (nI ni) (nI nl) (nI ng) bd rs tl gl gr ln li vs bi tx tz := by
  have hok2 := hok
  obtain ⟨hni, hl1, hl4, hng, _⟩ := hok2
  have b1 := ib_pow_le hl4
  intro d
  induction d with
  | zero =>
    intro k n vs bi hk hn h
    obtain ⟨f, rfl⟩ : ∃ f, n = f + 1 := ⟨n - 1, by omega⟩
    have e : k + 1 = (2 ^ nl) := by omega
    rw [e] at h
    exact br_t (nI_le (by omega) (by omega)) (ly_is hok (hE vs bi h))
  | succ d ih =>
    intro k n vs bi hk hn h
    obtain ⟨f, rfl⟩ : ∃ f, n = f + 1 := ⟨n - 1, by omega⟩
    have hc : (nI k).toNatClampNeg = k := nI_clamp (by omega)
    have hc2 : (nI (k + 1)).toNatClampNeg = k + 1 := nI_clamp (by omega)
    obtain ⟨q, eq, hq⟩ := h k (by omega)
    refine br_f (nI_ge (by omega) (by omega)) ⟨by rw [nI_pred]; exact vp_in_nI (by omega) (by omega), ?_⟩
    rw [nI_pred, hc, eq]
    refine ly_pr hok hq (fun q' vs' hq' => ?_)
    exact ⟨vp_in_nI (by omega) (by omega), nm_r (e' := upd bi (k + 1) (nI q')) (by rw [hc2]) (nm_r (nI_1 (k + 1)) (ih (k + 1) f vs' _ (by omega) (by omega) (ck_Bn_upd h hq')))⟩
theorem ly_58 {post : Int32 → SY → Prop} {s0 : Nat} (hok : ic_ok ni nl ng gl gr ln li bd) (hs0 : s0 < (2 ^ nl)) (hbn : ck_Bn (2 ^ ni) (2 ^ nl) (ic_nx ni nl ng gl gr ln) (ic_bv ni nl ng gl gr bd) (2 ^ nl) bi) (h1 : (∀ j, j < (2 ^ nl) → ¬ ck_B (2 ^ ni) (ic_nx ni nl ng gl gr ln) (ic_bv ni nl ng gl gr bd) j s0) → wY_check_91 post (nI s0) (-1) (nI ni) (nI nl) (nI ng) bd rs tl gl gr ln li vs bi tx tz) (h2 : ∀ d, d < (2 ^ nl) → ck_L (2 ^ ni) (ic_nx ni nl ng gl gr ln) (ic_bv ni nl ng gl gr bd) d s0 → wY_check_91 post (nI s0) (nI d) (nI ni) (nI nl) (nI ng) bd rs tl gl gr ln li vs bi tx tz) : ∀ e k n : Nat, k + e = (2 ^ nl) → e + 1 < n → (∀ j, j < k → ¬ ck_B (2 ^ ni) (ic_nx ni nl ng gl gr ln) (ic_bv ni nl ng gl gr bd) j s0) → wY_check_58 post (nI (2 ^ nl)) (nI s0) (nI ni) (nI nl) (nI ng) bd rs tl gl gr ln li vs bi tx tz n (-1) (nI k) := by
  have hok2 := hok
  obtain ⟨hni, hl1, hl4, hng, _⟩ := hok2
  have b1 := ib_pow_le hl4
  intro e
  induction e with
  | zero =>
    intro k n hk hn h
    obtain ⟨f, rfl⟩ : ∃ f, n = f + 1 := ⟨n - 1, by omega⟩
    have e : k = (2 ^ nl) := by omega
    subst e
    exact br_t (nI_le (by omega) (by omega)) (h1 h)
  | succ e ih =>
    intro k n hk hn h
    obtain ⟨f, rfl⟩ : ∃ f, n = f + 1 + 1 := ⟨n - 2, by omega⟩
    have hc : (nI k).toNatClampNeg = k := nI_clamp (by omega)
    obtain ⟨q, eq, hq⟩ := hbn k (by omega)
    have hbit := ck_bit (n := s0) hq.1 (by omega)
    have hB := hq.2 _ hs0
    refine br_f (nI_ge (by omega) (by omega)) (br_f ly_m1 ⟨vp_in_nI (by omega) (by omega), ?_⟩)
    rw [hc, eq]
    by_cases hk2 : ck_B (2 ^ ni) (ic_nx ni nl ng gl gr ln) (ic_bv ni nl ng gl gr bd) k s0
    · have hr := h2 k (by omega) ⟨hk2, h⟩
      exact br_f (fun e => hbit.1 e (hB.2 hk2)) (nm_r (nI_1 k) (br_c (fun _ => hr) (fun _ => br_t (nI_pos' (by omega)) hr)))
    · exact br_t (hbit.2 (fun e => hk2 (hB.1 e))) (nm_r (nI_1 k) (ih (k + 1) (f + 1) (by omega) (by omega) (lt_s h hk2)))
theorem ly_123 {post : Int32 → SY → Prop} {J : Int32 → Int32 → Int32 → Int32 → Int32 → Int32 → Int32 → Int32 → (Nat → Int32) → (Nat → Int32) → (Nat → Int32) → (Nat → Int32) → (Nat → Int32) → (Nat → Int32) → (Nat → Int32) → (Nat → Int32) → Prop} {d t k s r : Nat} (hok : ic_ok ni nl ng gl gr ln li bd) (hs : s < (2 ^ nl)) (hd : d < (2 ^ nl)) (hk : d - t = k + 1) (ht : t ≤ d) (hbn : ck_Bn (2 ^ ni) (2 ^ nl) (ic_nx ni nl ng gl gr ln) (ic_bv ni nl ng gl gr bd) (2 ^ nl) bi) (hL : ck_L (2 ^ ni) (ic_nx ni nl ng gl gr ln) (ic_bv ni nl ng gl gr bd) (k + 1) s) (hr : ck_Ls (2 ^ ni) (ic_nx ni nl ng gl gr ln) (ic_bv ni nl ng gl gr bd) (k + 1) s r) (hC : ∀ vs, wY_check_178 post J (nI d) (nI s) (nI t) (nI r) (nI ni) (nI nl) (nI ng) bd rs tl gl gr ln li vs bi tx tz) : ∀ (e x n : Nat) (vs : Nat → Int32), x + e = r → e + 1 < n → wY_check_123 post J (nI d) (nI s) (nI t) n (-1) (nI x) (nI ni) (nI nl) (nI ng) bd rs tl gl gr ln li vs bi tx tz := by
  have hok2 := hok
  obtain ⟨hni, hl1, hl4, hng, _⟩ := hok2
  have b1 := ib_pow_le hl4
  have b2 := ib_pow_le8 hni
  have ep := ib_pow1 ni (by omega)
  have hr1 := hr.1
  have e5 : (nI d - nI t) - 1 = nI k := by rw [pk_sub ht, hk, nI_pred]
  have hc : (nI k).toNatClampNeg = k := nI_clamp (by omega)
  obtain ⟨q, eq, hq⟩ := hbn k (by omega)
  intro e
  induction e with
  | zero =>
    intro x n vs hx hn
    obtain ⟨f, rfl⟩ : ∃ f, n = f + 1 + 1 := ⟨n - 2, by omega⟩
    have e : x = r := by omega
    subst e
    have hb : (ic_nx ni nl ng gl gr ln) s x < (2 ^ nl) := ic_nx_lt _ _ _ _ _ _ s x
    have hbit := ck_bit (n := (ic_nx ni nl ng gl gr ln) s x) hq.1 (by omega)
    have hB := hq.2 _ hb
    have hF : ck_B (2 ^ ni) (ic_nx ni nl ng gl gr ln) (ic_bv ni nl ng gl gr bd) k ((ic_nx ni nl ng gl gr ln) s x) := (ck_FG hL.2 hr1).1 hr.2.1
    refine br_f (by rw [ep]; exact nI_ge (by omega) (by omega)) (br_f ly_m1 (ly_ns hok hs hr1 (fun vs' => ⟨by rw [e5]; exact vp_in_nI (by omega) (by omega), ?_⟩)))
    rw [e5, hc, eq]
    exact br_f (fun e => hbit.1 e (hB.2 hF)) (nm_r (nI_1 x) (br_c (fun _ => hC vs') (fun _ => br_t (nI_pos' (by omega)) (hC vs'))))
  | succ e ih =>
    intro x n vs hx hn
    obtain ⟨f, rfl⟩ : ∃ f, n = f + 1 := ⟨n - 1, by omega⟩
    have hx2 : x < (2 ^ ni) := by omega
    have hb : (ic_nx ni nl ng gl gr ln) s x < (2 ^ nl) := ic_nx_lt _ _ _ _ _ _ s x
    have hbit := ck_bit (n := (ic_nx ni nl ng gl gr ln) s x) hq.1 (by omega)
    have hB := hq.2 _ hb
    have hF : ¬ ck_B (2 ^ ni) (ic_nx ni nl ng gl gr ln) (ic_bv ni nl ng gl gr bd) k ((ic_nx ni nl ng gl gr ln) s x) := fun h => hr.2.2 x (by omega) ((ck_FG (k := k + 1) hL.2 hx2).2 h)
    refine br_f (by rw [ep]; exact nI_ge (by omega) (by omega)) (br_f ly_m1 (ly_ns hok hs hx2 (fun vs' => ⟨by rw [e5]; exact vp_in_nI (by omega) (by omega), ?_⟩)))
    rw [e5, hc, eq]
    exact br_t (hbit.2 (fun e => hF (hB.1 e))) (nm_r (nI_1 x) (ih (x + 1) f vs' (by omega) (by omega)))
theorem ly_226 {post : Int32 → SY → Prop} {d s r : Nat} (hok : ic_ok ni nl ng gl gr ln li bd) (hs : s < (2 ^ nl)) (hr : ck_Ls (2 ^ ni) (ic_nx ni nl ng gl gr ln) (ic_bv ni nl ng gl gr bd) 0 s r) (hC : ∀ vs, wY_check_264 post (nI d) (nI s) (nI r) (nI ni) (nI nl) (nI ng) bd rs tl gl gr ln li vs bi tx tz) : ∀ (e x n : Nat) (vs : Nat → Int32), x + e = r → e + 1 < n → wY_check_226 post (nI d) (nI s) n (-1) (nI x) (nI ni) (nI nl) (nI ng) bd rs tl gl gr ln li vs bi tx tz := by
  have hok2 := hok
  obtain ⟨hni, hl1, hl4, hng, _⟩ := hok2
  have b1 := ib_pow_le hl4
  have b2 := ib_pow_le8 hni
  have ep := ib_pow1 ni (by omega)
  have hr1 := hr.1
  intro e
  induction e with
  | zero =>
    intro x n vs hx hn
    obtain ⟨f, rfl⟩ : ∃ f, n = f + 1 + 1 := ⟨n - 2, by omega⟩
    have e : x = r := by omega
    subst e
    have hF : (ic_bv ni nl ng gl gr bd) s x = 1 := hr.2.1
    have hb : (ic_bv ni nl ng gl gr bd) s x < 2 := ic_lt2 _ _
    refine br_f (by rw [ep]; exact nI_ge (by omega) (by omega)) (br_f ly_m1 (ly_bv hok hs hr1 (fun vs' => ?_)))
    exact br_t ((ly_b1 hb).2 hF) (nm_r (nI_1 x) (br_c (fun _ => hC vs') (fun _ => br_t (nI_pos' (by omega)) (hC vs'))))
  | succ e ih =>
    intro x n vs hx hn
    obtain ⟨f, rfl⟩ : ∃ f, n = f + 1 := ⟨n - 1, by omega⟩
    have hx2 : x < (2 ^ ni) := by omega
    have hF : ¬ (ic_bv ni nl ng gl gr bd) s x = 1 := hr.2.2 x (by omega)
    have hb : (ic_bv ni nl ng gl gr bd) s x < 2 := ic_lt2 _ _
    refine br_f (by rw [ep]; exact nI_ge (by omega) (by omega)) (br_f ly_m1 (ly_bv hok hs hx2 (fun vs' => ?_)))
    exact br_f (fun e => hF ((ly_b1 hb).1 e)) (nm_r (nI_1 x) (ih (x + 1) f vs' (by omega) (by omega)))
theorem ly_111 {post : Int32 → SY → Prop} {d s0 : Nat} (hok : ic_ok ni nl ng gl gr ln li bd) (hs0 : s0 < (2 ^ nl)) (hd : d < (2 ^ nl)) (hbn : ck_Bn (2 ^ ni) (2 ^ nl) (ic_nx ni nl ng gl gr ln) (ic_bv ni nl ng gl gr bd) (2 ^ nl) bi) (hL : ck_L (2 ^ ni) (ic_nx ni nl ng gl gr ln) (ic_bv ni nl ng gl gr bd) d s0) (hp : ∀ vs tx tz, ck_Tr (2 ^ ni) (ic_nx ni nl ng gl gr ln) (ic_bv ni nl ng gl gr bd) d s0 (d + 1) tx tz → post 2 (nI ni, nI nl, nI ng, bd, 2, nI d, gl, gr, ln, li, vs, bi, tx, tz)) : ∀ (e t n : Nat) (vs tx tz : Nat → Int32), t + e = d → e < n → ck_Tr (2 ^ ni) (ic_nx ni nl ng gl gr ln) (ic_bv ni nl ng gl gr bd) d s0 t tx tz → wY_check_111 post (nI d) n (nI (ck_st (2 ^ ni) (ic_nx ni nl ng gl gr ln) (ic_bv ni nl ng gl gr bd) d s0 t)) (nI t) (nI ni) (nI nl) (nI ng) bd rs tl gl gr ln li vs bi tx tz := by
  have hok2 := hok
  obtain ⟨hni, hl1, hl4, hng, _⟩ := hok2
  have b1 := ib_pow_le hl4
  have b2 := ib_pow_le8 hni
  have hst : ∀ t, ck_st (2 ^ ni) (ic_nx ni nl ng gl gr ln) (ic_bv ni nl ng gl gr bd) d s0 t < (2 ^ nl) := ck_st_lt (fun s x => ic_nx_lt _ _ _ _ _ _ s x) hs0
  intro e
  induction e with
  | zero =>
    intro t n vs tx tz ht hn h
    obtain ⟨f, rfl⟩ : ∃ f, n = f + 1 := ⟨n - 1, by omega⟩
    have e : t = d := by omega
    subst e
    have hc : (nI t).toNatClampNeg = t := nI_clamp (by omega)
    have hLt := ck_st_L hL t (by omega)
    have hx := ck_x_sp hLt
    have hx1 := hx.1
    have ez : t - t = 0 := by omega
    rw [ez] at hx hx1
    refine br_t (nI_le (by omega) (by omega)) ⟨ck_x (2 ^ ni) (ic_nx ni nl ng gl gr ln) (ic_bv ni nl ng gl gr bd) 0 (ck_st (2 ^ ni) (ic_nx ni nl ng gl gr ln) (ic_bv ni nl ng gl gr bd) t s0 t) + 2, ly_226 hok (hst t) hx (fun vs' => ?_) (ck_x (2 ^ ni) (ic_nx ni nl ng gl gr ln) (ic_bv ni nl ng gl gr bd) 0 (ck_st (2 ^ ni) (ic_nx ni nl ng gl gr ln) (ic_bv ni nl ng gl gr bd) t s0 t)) 0 _ vs (by omega) (by omega)⟩
    refine br_t (nI_pos' (by omega)) ⟨vp_in_nI (by omega) (by omega), nm_r (e' := upd tx t (nI (ck_x (2 ^ ni) (ic_nx ni nl ng gl gr ln) (ic_bv ni nl ng gl gr bd) 0 (ck_st (2 ^ ni) (ic_nx ni nl ng gl gr ln) (ic_bv ni nl ng gl gr bd) t s0 t)))) (by rw [hc]) ⟨vp_in_nI (by omega) (by omega), nm_r (e' := upd tz t (nI (ck_st (2 ^ ni) (ic_nx ni nl ng gl gr ln) (ic_bv ni nl ng gl gr bd) t s0 t))) (by rw [hc]) (hp vs' _ _ (ck_Tr_upd h (by rw [ez]) rfl))⟩⟩
  | succ e ih =>
    intro t n vs tx tz ht hn h
    obtain ⟨f, rfl⟩ : ∃ f, n = f + 1 := ⟨n - 1, by omega⟩
    have hc : (nI t).toNatClampNeg = t := nI_clamp (by omega)
    have hLt := ck_st_L hL t (by omega)
    have hx := ck_x_sp hLt
    have hx1 := hx.1
    have hT := ck_Tr_upd (x := nI (ck_x (2 ^ ni) (ic_nx ni nl ng gl gr ln) (ic_bv ni nl ng gl gr bd) (d - t) (ck_st (2 ^ ni) (ic_nx ni nl ng gl gr ln) (ic_bv ni nl ng gl gr bd) d s0 t))) (y := nI (ck_st (2 ^ ni) (ic_nx ni nl ng gl gr ln) (ic_bv ni nl ng gl gr bd) d s0 t)) h rfl rfl
    have est : ck_st (2 ^ ni) (ic_nx ni nl ng gl gr ln) (ic_bv ni nl ng gl gr bd) d s0 (t + 1) = (ic_nx ni nl ng gl gr ln) (ck_st (2 ^ ni) (ic_nx ni nl ng gl gr ln) (ic_bv ni nl ng gl gr bd) d s0 t) (ck_x (2 ^ ni) (ic_nx ni nl ng gl gr ln) (ic_bv ni nl ng gl gr bd) (d - t) (ck_st (2 ^ ni) (ic_nx ni nl ng gl gr ln) (ic_bv ni nl ng gl gr bd) d s0 t)) := rfl
    obtain ⟨k, hk⟩ : ∃ k, d - t = k + 1 := ⟨d - t - 1, by omega⟩
    rw [hk] at hLt hx hx1 hT est
    refine br_f (nI_ge (by omega) (by omega)) ⟨ck_x (2 ^ ni) (ic_nx ni nl ng gl gr ln) (ic_bv ni nl ng gl gr bd) (k + 1) (ck_st (2 ^ ni) (ic_nx ni nl ng gl gr ln) (ic_bv ni nl ng gl gr bd) d s0 t) + 2, ly_123 hok (hst t) hd hk (by omega) hbn hLt hx (fun vs' => ?_) (ck_x (2 ^ ni) (ic_nx ni nl ng gl gr ln) (ic_bv ni nl ng gl gr bd) (k + 1) (ck_st (2 ^ ni) (ic_nx ni nl ng gl gr ln) (ic_bv ni nl ng gl gr bd) d s0 t)) 0 _ vs (by omega) (by omega)⟩
    refine br_t (nI_pos' (by omega)) ⟨vp_in_nI (by omega) (by omega), nm_r (e' := upd tx t (nI (ck_x (2 ^ ni) (ic_nx ni nl ng gl gr ln) (ic_bv ni nl ng gl gr bd) (k + 1) (ck_st (2 ^ ni) (ic_nx ni nl ng gl gr ln) (ic_bv ni nl ng gl gr bd) d s0 t)))) (by rw [hc]) ⟨vp_in_nI (by omega) (by omega), nm_r (e' := upd tz t (nI (ck_st (2 ^ ni) (ic_nx ni nl ng gl gr ln) (ic_bv ni nl ng gl gr bd) d s0 t))) (by rw [hc]) ?_⟩⟩
    refine ly_ns hok (hst t) hx1 (fun vs2 => ?_)
    rw [← est]
    exact nm_r (nI_1 t) (ih (t + 1) f vs2 _ _ (by omega) (by omega) hT)
theorem ly_check {post : Int32 → SY → Prop} (hok : ic_ok ni nl ng gl gr ln li bd) (h1 : (∀ j, j < (2 ^ nl) → ¬ ck_B (2 ^ ni) (ic_nx ni nl ng gl gr ln) (ic_bv ni nl ng gl gr bd) j (ic_I li nl)) → ∀ vs bi, post 1 (nI ni, nI nl, nI ng, bd, 1, tl, gl, gr, ln, li, vs, bi, tx, tz)) (h2 : ∀ d, d < (2 ^ nl) → ck_L (2 ^ ni) (ic_nx ni nl ng gl gr ln) (ic_bv ni nl ng gl gr bd) d (ic_I li nl) → ∀ vs bi tx tz, ck_Tr (2 ^ ni) (ic_nx ni nl ng gl gr ln) (ic_bv ni nl ng gl gr bd) d (ic_I li nl) (d + 1) tx tz → post 2 (nI ni, nI nl, nI ng, bd, 2, nI d, gl, gr, ln, li, vs, bi, tx, tz)) : wpY_check post (nI ni, nI nl, nI ng, bd, rs, tl, gl, gr, ln, li, vs, bi, tx, tz) := by
  have b1 := ib_pow_le hok.2.2.1
  have b3 : 2 ^ 1 ≤ 2 ^ nl := Nat.pow_le_pow_right (by decide) hok.2.1
  have hI := lx_I_lt hok
  unfold wpY_check
  refine nm_r (ib_pow1 nl (Nat.lt_of_le_of_lt hok.2.2.1 (by decide))) (ly_bn hok (fun q vs hq => ?_))
  refine nm_e ⟨(2 ^ nl), ly_19 hok (fun vs bi hbn => ?_) ((2 ^ nl) - 1) 0 (2 ^ nl) vs (upd bi 0 (nI q)) (by omega) (by omega) (ck_Bn_upd (fun i hi => absurd hi (by omega)) hq)⟩
  refine ⟨(2 ^ nl) + 2, ly_58 hok hI hbn (fun hn => br_f ly_m1 (h1 hn vs bi)) (fun d hd hL => ?_) (2 ^ nl) 0 ((2 ^ nl) + 2) (by omega) (by omega) (fun j hj => absurd hj (by omega))⟩
  exact br_t (nI_pos' (by omega)) ⟨d + 1, ly_111 hok hI hd hbn hL (fun vs tx tz hT => h2 d hd hL vs bi tx tz hT) d 0 (d + 1) vs tx tz (by omega) (by omega) (fun t ht => absurd ht (by omega))⟩
end
