/-! X's search: least inputs, distances, trace -/
section
variable {ni nl ng : Nat} {bd rs tl : Int32} {gl gr ln li ti ts ds : Nat → Int32}
theorem lx_li_loop {post : Int32 → Prop} {s k : Nat} (hok : ic_ok ni nl ng gl gr ln li bd) (hs : s < 2 ^ nl) (hk : k ≤ 100) (hF : ∀ r, r < 2 ^ ni → ck_X (ic_nx ni nl ng gl gr ln) (ic_bv ni nl ng gl gr bd) ds k s r → (∀ y, y < r → ¬ ck_X (ic_nx ni nl ng gl gr ln) (ic_bv ni nl ng gl gr bd) ds k s y) → post (nI r)) (hN : (∀ y, y < 2 ^ ni → ¬ ck_X (ic_nx ni nl ng gl gr ln) (ic_bv ni nl ng gl gr bd) ds k s y) → post (-1)) : ∀ d x n : Nat, x + d = 2 ^ ni → d < n → (∀ y, y < x → ¬ ck_X (ic_nx ni nl ng gl gr ln) (ic_bv ni nl ng gl gr bd) ds k s y) → wX_leastInputs_10 post (nI s) (nI k) (nI (2 ^ ni)) (nI ni) (nI nl) (nI ng) bd rs tl gl gr ln li ti ts ds n (nI x) := by
  have hok2 := hok
  obtain ⟨hni, hl1, hl4, hng, hgl, hgr, hln, hli, l, el, hl⟩ := hok2
  have b1 := ib_pow_le hl4
  have b2 := ib_pow_le8 hni
  intro d
  induction d with
  | zero =>
    intro x n hx hn h
    obtain ⟨m, rfl⟩ : ∃ m, n = m + 1 := ⟨n - 1, by omega⟩
    have e : x = 2 ^ ni := by omega
    subst e
    exact br_t (nI_le (by omega) (by omega)) (hN h)
  | succ d ih =>
    intro x n hx hn h
    obtain ⟨m, rfl⟩ : ∃ m, n = m + 1 := ⟨n - 1, by omega⟩
    have hx2 : x < 2 ^ ni := by omega
    have hV := lx_V31 hok hs hx2
    have hnext : ¬ ck_X (ic_nx ni nl ng gl gr ln) (ic_bv ni nl ng gl gr bd) ds k s x → ∀ y, y < x + 1 → ¬ ck_X (ic_nx ni nl ng gl gr ln) (ic_bv ni nl ng gl gr bd) ds k s y := fun hP => lt_s h hP
    refine br_f (nI_ge (by omega) (by omega)) (lx_vvN hok hs hx2 ?_)
    cases k with
    | zero =>
      have hb : (ic_bv ni nl ng gl gr bd) s x = ic_lt (ic_V ni nl gl gr s x ng) l := by
        unfold ic_bv
        rw [lx_cl el (by omega)]
      refine br_t nI_0 (lx_lv (l := l) hV el (by omega) ?_)
      by_cases hP : (ic_bv ni nl ng gl gr bd) s x = 1
      · have h1 : nI (ic_lt (ic_V ni nl gl gr s x ng) l) = 1 := by rw [← hb, hP]; rfl
        exact br_t h1 (br_f (by decide) (hF x hx2 hP h))
      · have h1 : ¬ nI (ic_lt (ic_V ni nl gl gr s x ng) l) = 1 := by
          intro e
          have e2 : nI (ic_lt (ic_V ni nl gl gr s x ng) l) = nI 1 := e
          have h2 := ic_lt2 (ic_V ni nl gl gr s x ng) l
          rw [nI_eq (by omega) (by omega)] at e2
          exact hP (hb.trans e2)
        exact br_f h1 (br_t rfl (nm_r (nI_1 x) (ih (x + 1) m (by omega) (by omega) (hnext hP))))
    | succ k =>
      have hn2 := ic_N_lt ln (ic_V ni nl gl gr s x ng) nl
      have hc : (nI (ic_N ln (ic_V ni nl gl gr s x ng) nl)).toNatClampNeg = ic_N ln (ic_V ni nl gl gr s x ng) nl := nI_clamp (by omega)
      refine br_f (nI_ne0 (by omega) (by omega)) (lx_ns hok hV ⟨vp_in_nI (by omega) (by omega), ?_⟩)
      by_cases hP : ds (ic_N ln (ic_V ni nl gl gr s x ng) nl) = nI k
      · exact br_t (by rw [hc, nI_pred]; exact hP) (br_f (by decide) (hF x hx2 hP h))
      · exact br_f (by rw [hc, nI_pred]; exact hP) (br_t rfl (nm_r (nI_1 x) (ih (x + 1) m (by omega) (by omega) (hnext hP))))
theorem lx_li {post : Int32 → Prop} {s k : Nat} (hok : ic_ok ni nl ng gl gr ln li bd) (hs : s < 2 ^ nl) (hk : k ≤ 100) (hF : ∀ r, r < 2 ^ ni → ck_X (ic_nx ni nl ng gl gr ln) (ic_bv ni nl ng gl gr bd) ds k s r → (∀ y, y < r → ¬ ck_X (ic_nx ni nl ng gl gr ln) (ic_bv ni nl ng gl gr bd) ds k s y) → post (nI r)) (hN : (∀ y, y < 2 ^ ni → ¬ ck_X (ic_nx ni nl ng gl gr ln) (ic_bv ni nl ng gl gr bd) ds k s y) → post (-1)) : wpX_leastInputs post (nI ni, nI nl, nI ng, bd, rs, tl, gl, gr, ln, li, ti, ts, ds) (nI s) (nI k) :=
  nm_r (ib_pow1 ni (Nat.lt_of_le_of_lt hok.1 (by decide))) ⟨2 ^ ni + 1, lx_li_loop hok hs hk hF hN (2 ^ ni) 0 (2 ^ ni + 1) (by omega) (by omega) (fun y hy => absurd hy (by omega))⟩
theorem lx_36 {post : SX → Prop} {J : Int32 → (Nat → Int32) → (Nat → Int32) → (Nat → Int32) → (Nat → Int32) → (Nat → Int32) → (Nat → Int32) → (Nat → Int32) → Prop} {k : Nat} (hok : ic_ok ni nl ng gl gr ln li bd) (hk : k < 16) (hJ : ∀ ds, ck_Dm (2 ^ ni) (2 ^ nl) (ic_nx ni nl ng gl gr ln) (ic_bv ni nl ng gl gr bd) k (2 ^ nl) ds → J (nI (k + 1)) gl gr ln li ti ts ds) : ∀ (d s n : Nat) (ds : Nat → Int32), s + d = 2 ^ nl → d < n → ck_Dm (2 ^ ni) (2 ^ nl) (ic_nx ni nl ng gl gr ln) (ic_bv ni nl ng gl gr bd) k s ds → wX_measureDistances_36 post J (nI (2 ^ nl)) (nI k) (nI ni) (nI nl) (nI ng) bd rs tl n (nI s) gl gr ln li ti ts ds := by
  have hok2 := hok
  obtain ⟨hni, hl1, hl4, hng, _⟩ := hok2
  have b1 := ib_pow_le hl4
  have b2 := ib_pow_le8 hni
  intro d
  induction d with
  | zero =>
    intro s n ds hs hn h
    obtain ⟨m, rfl⟩ : ∃ m, n = m + 1 := ⟨n - 1, by omega⟩
    have e : s = 2 ^ nl := by omega
    subst e
    exact br_t (nI_le (by omega) (by omega)) (nm_r (nI_1 k) (hJ ds h))
  | succ d ih =>
    intro s n ds hs hn h
    obtain ⟨m, rfl⟩ : ∃ m, n = m + 1 := ⟨n - 1, by omega⟩
    have hs2 : s < 2 ^ nl := by omega
    have hc : (nI s).toNatClampNeg = s := nI_clamp (by omega)
    have hD := ck_Dm_at h hs2
    refine br_f (nI_ge (by omega) (by omega)) ⟨vp_in_nI (by omega) (by omega), ?_⟩
    by_cases hm : ds s = -1
    · refine br_t (by rw [hc]; exact hm) ?_
      have hno := ck_D_m1 hD (by omega) hm
      have hXF : ∀ x, ck_X (ic_nx ni nl ng gl gr ln) (ic_bv ni nl ng gl gr bd) ds k s x ↔ ck_F (2 ^ ni) (ic_nx ni nl ng gl gr ln) (ic_bv ni nl ng gl gr bd) k s x := fun x => ck_XF (N := 2 ^ nl) (ic_nx_lt _ _ _ _ _ _ _ _) (ck_Dm_K h (by omega))
      refine lx_li hok hs2 (by omega) ?_ ?_
      · intro r hr hP _
        have hB : ck_B (2 ^ ni) (ic_nx ni nl ng gl gr ln) (ic_bv ni nl ng gl gr bd) k s := (ck_BF hno).2 ⟨r, hr, (hXF r).1 hP⟩
        exact br_f (ib_nm1 (by omega)) ⟨vp_in_nI (by omega) (by omega), nm_r (e' := upd ds s (nI k)) (by rw [hc]) (nm_r (nI_1 s) (ih (s + 1) m _ (by omega) (by omega) (ck_Dm_upd h _ (ck_D_set hno hB))))⟩
      · intro hN
        have hB : ¬ ck_B (2 ^ ni) (ic_nx ni nl ng gl gr ln) (ic_bv ni nl ng gl gr bd) k s := by
          intro hB
          obtain ⟨x, hx, hFx⟩ := (ck_BF hno).1 hB
          exact hN x hx ((hXF x).2 hFx)
        exact br_t rfl (nm_r (nI_1 s) (ih (s + 1) m _ (by omega) (by omega) (ck_Dm_keep h (by rw [hm]; exact ck_D_no hno hB))))
    · exact br_f (by rw [hc]; exact hm) (nm_r (nI_1 s) (ih (s + 1) m _ (by omega) (by omega) (ck_Dm_keep h (ck_D_up hD hm))))
theorem lx_29 {post : SX → Prop} (hok : ic_ok ni nl ng gl gr ln li bd) (hp : ∀ ds, (∀ t, t < 2 ^ nl → ck_D (2 ^ ni) (ic_nx ni nl ng gl gr ln) (ic_bv ni nl ng gl gr bd) (2 ^ nl) t (ds t)) → post (nI ni, nI nl, nI ng, bd, rs, tl, gl, gr, ln, li, ti, ts, ds)) : ∀ (d k n : Nat) (ds : Nat → Int32), k + d = 2 ^ nl → d < n → ck_Dm (2 ^ ni) (2 ^ nl) (ic_nx ni nl ng gl gr ln) (ic_bv ni nl ng gl gr bd) k 0 ds → wX_measureDistances_29 post (nI (2 ^ nl)) (nI ni) (nI nl) (nI ng) bd rs tl n (nI k) gl gr ln li ti ts ds := by
  have hok2 := hok
  obtain ⟨hni, hl1, hl4, hng, _⟩ := hok2
  have b1 := ib_pow_le hl4
  intro d
  induction d with
  | zero =>
    intro k n ds hk hn h
    obtain ⟨m, rfl⟩ : ∃ m, n = m + 1 := ⟨n - 1, by omega⟩
    have e : k = 2 ^ nl := by omega
    subst e
    refine br_t (nI_le (by omega) (by omega)) (hp ds (fun t ht => ?_))
    have h2 := h t ht
    rw [if_neg (by omega)] at h2
    exact h2
  | succ d ih =>
    intro k n ds hk hn h
    obtain ⟨m, rfl⟩ : ∃ m, n = m + 1 := ⟨n - 1, by omega⟩
    exact br_f (nI_ge (by omega) (by omega)) ⟨2 ^ nl + 1, lx_36 hok (by omega) (fun ds' h' => ih (k + 1) m ds' (by omega) (by omega) (ck_Dm_next h')) (2 ^ nl) 0 (2 ^ nl + 1) ds (by omega) (by omega) h⟩
theorem lx_9 {post : SX → Prop} (hok : ic_ok ni nl ng gl gr ln li bd) (hp : ∀ ds, (∀ t, t < 2 ^ nl → ck_D (2 ^ ni) (ic_nx ni nl ng gl gr ln) (ic_bv ni nl ng gl gr bd) (2 ^ nl) t (ds t)) → post (nI ni, nI nl, nI ng, bd, rs, tl, gl, gr, ln, li, ti, ts, ds)) : ∀ (d i n : Nat) (ds : Nat → Int32), i + d = 2 ^ nl → d < n → (∀ t, t < i → ds t = -1) → wX_measureDistances_9 post (nI (2 ^ nl)) (nI ni) (nI nl) (nI ng) bd rs tl n (nI i) gl gr ln li ti ts ds := by
  have hok2 := hok
  obtain ⟨hni, hl1, hl4, hng, _⟩ := hok2
  have b1 := ib_pow_le hl4
  intro d
  induction d with
  | zero =>
    intro i n ds hi hn h
    obtain ⟨m, rfl⟩ : ∃ m, n = m + 1 := ⟨n - 1, by omega⟩
    have e : i = 2 ^ nl := by omega
    subst e
    exact br_t (nI_le (by omega) (by omega)) ⟨2 ^ nl + 1, lx_29 hok hp (2 ^ nl) 0 (2 ^ nl + 1) ds (by omega) (by omega) (ck_Dm_0 h)⟩
  | succ d ih =>
    intro i n ds hi hn h
    obtain ⟨m, rfl⟩ : ∃ m, n = m + 1 := ⟨n - 1, by omega⟩
    have hc : (nI i).toNatClampNeg = i := nI_clamp (by omega)
    refine br_f (nI_ge (by omega) (by omega)) ⟨vp_in_nI (by omega) (by omega), nm_r (e' := upd ds i (-1)) (by rw [hc]) (nm_r (nI_1 i) (ih (i + 1) m _ (by omega) (by omega) ?_))⟩
    intro t ht
    by_cases e : t = i
    · subst e; exact pk_us
    · rw [pk_un e]; exact h t (by omega)
theorem lx_md {post : SX → Prop} (hok : ic_ok ni nl ng gl gr ln li bd) (hp : ∀ ds, (∀ t, t < 2 ^ nl → ck_D (2 ^ ni) (ic_nx ni nl ng gl gr ln) (ic_bv ni nl ng gl gr bd) (2 ^ nl) t (ds t)) → post (nI ni, nI nl, nI ng, bd, rs, tl, gl, gr, ln, li, ti, ts, ds)) : wpX_measureDistances post (nI ni, nI nl, nI ng, bd, rs, tl, gl, gr, ln, li, ti, ts, ds) :=
  nm_r (ib_pow1 nl (Nat.lt_of_le_of_lt hok.2.2.1 (by decide))) ⟨2 ^ nl + 1, lx_9 hok hp (2 ^ nl) 0 (2 ^ nl + 1) ds (by omega) (by omega) (fun t ht => absurd ht (by omega))⟩
/-- the trace's cells below n -/
def ck_Tr (M : Nat) (nx bv : Nat → Nat → Nat) (d s0 n : Nat) (a b : Nat → Int32) : Prop := ∀ t, t < n → a t = nI (ck_x M nx bv (d - t) (ck_st M nx bv d s0 t)) ∧ b t = nI (ck_st M nx bv d s0 t)
theorem ck_Tr_upd {M : Nat} {nx bv : Nat → Nat → Nat} {d s0 n : Nat} {a b : Nat → Int32} {x y : Int32} (h : ck_Tr M nx bv d s0 n a b) (hx : x = nI (ck_x M nx bv (d - n) (ck_st M nx bv d s0 n))) (hy : y = nI (ck_st M nx bv d s0 n)) : ck_Tr M nx bv d s0 (n + 1) (upd a n x) (upd b n y) := by
  intro t ht
  by_cases e : t = n
  · subst e
    rw [pk_us, pk_us]
    exact ⟨hx, hy⟩
  · rw [pk_un e, pk_un e]
    exact h t (by omega)
theorem lx_12 {post : SX → Prop} {d s0 : Nat} (hok : ic_ok ni nl ng gl gr ln li bd) (hs0 : s0 < 2 ^ nl) (hd : d < 2 ^ nl) (hD : ∀ t, t < 2 ^ nl → ck_D (2 ^ ni) (ic_nx ni nl ng gl gr ln) (ic_bv ni nl ng gl gr bd) (2 ^ nl) t (ds t)) (hL : ck_L (2 ^ ni) (ic_nx ni nl ng gl gr ln) (ic_bv ni nl ng gl gr bd) d s0) (hp : ∀ ti ts, ck_Tr (2 ^ ni) (ic_nx ni nl ng gl gr ln) (ic_bv ni nl ng gl gr bd) d s0 (d + 1) ti ts → post (nI ni, nI nl, nI ng, bd, rs, nI d, gl, gr, ln, li, ti, ts, ds)) : ∀ (e t n : Nat) (ti ts : Nat → Int32), t + e = d + 1 → e < n → ck_Tr (2 ^ ni) (ic_nx ni nl ng gl gr ln) (ic_bv ni nl ng gl gr bd) d s0 t ti ts → wX_storeTrace_12 post (nI d) (nI ni) (nI nl) (nI ng) bd rs tl n (nI (ck_st (2 ^ ni) (ic_nx ni nl ng gl gr ln) (ic_bv ni nl ng gl gr bd) d s0 t)) (nI t) gl gr ln li ti ts ds := by
  have hok2 := hok
  obtain ⟨hni, hl1, hl4, hng, _⟩ := hok2
  have b1 := ib_pow_le hl4
  have b2 := ib_pow_le8 hni
  intro e
  induction e with
  | zero =>
    intro t n ti ts ht hn h
    obtain ⟨m, rfl⟩ : ∃ m, n = m + 1 := ⟨n - 1, by omega⟩
    have e : t = d + 1 := by omega
    subst e
    exact br_t (nI_lt (by omega) (by omega)) (hp ti ts h)
  | succ e ih =>
    intro t n ti ts ht hn h
    obtain ⟨m, rfl⟩ : ∃ m, n = m + 1 := ⟨n - 1, by omega⟩
    have hc : (nI t).toNatClampNeg = t := nI_clamp (by omega)
    have hst : ck_st (2 ^ ni) (ic_nx ni nl ng gl gr ln) (ic_bv ni nl ng gl gr bd) d s0 t < 2 ^ nl := ck_st_lt (fun s x => ic_nx_lt _ _ _ _ _ _ s x) hs0 t
    have hLt := ck_st_L hL t (by omega)
    have hXF : ∀ x, ck_X (ic_nx ni nl ng gl gr ln) (ic_bv ni nl ng gl gr bd) ds (d - t) (ck_st (2 ^ ni) (ic_nx ni nl ng gl gr ln) (ic_bv ni nl ng gl gr bd) d s0 t) x ↔ ck_F (2 ^ ni) (ic_nx ni nl ng gl gr ln) (ic_bv ni nl ng gl gr bd) (d - t) (ck_st (2 ^ ni) (ic_nx ni nl ng gl gr ln) (ic_bv ni nl ng gl gr bd) d s0 t) x := fun x => ck_XF (N := 2 ^ nl) (ic_nx_lt _ _ _ _ _ _ _ _) (fun q hq => ⟨2 ^ nl, by omega, by omega, hD q hq⟩)
    have e1 : nI d - nI t = nI (d - t) := pk_sub (by omega)
    refine br_f (nI_nlt (by omega) (by omega)) ?_
    rw [e1]
    refine lx_li hok hst (by omega) ?_ ?_
    · intro r hr hP hmin
      have er := ck_x_eq (k := d - t) (s := ck_st (2 ^ ni) (ic_nx ni nl ng gl gr ln) (ic_bv ni nl ng gl gr bd) d s0 t) ⟨hr, (hXF r).1 hP, fun y hy hFy => hmin y hy ((hXF y).2 hFy)⟩
      refine ⟨vp_in_nI (by omega) (by omega), nm_r (e' := upd ts t (nI (ck_st (2 ^ ni) (ic_nx ni nl ng gl gr ln) (ic_bv ni nl ng gl gr bd) d s0 t))) (by rw [hc]) ⟨vp_in_nI (by omega) (by omega), nm_r (e' := upd ti t (nI r)) (by rw [hc]) ?_⟩⟩
      refine lx_vvN hok hst hr (lx_ns hok (lx_V31 hok hst hr) ?_)
      have est : ic_N ln (ic_V ni nl gl gr (ck_st (2 ^ ni) (ic_nx ni nl ng gl gr ln) (ic_bv ni nl ng gl gr bd) d s0 t) r ng) nl = ck_st (2 ^ ni) (ic_nx ni nl ng gl gr ln) (ic_bv ni nl ng gl gr bd) d s0 (t + 1) := by
        show _ = (ic_nx ni nl ng gl gr ln) (ck_st (2 ^ ni) (ic_nx ni nl ng gl gr ln) (ic_bv ni nl ng gl gr bd) d s0 t) (ck_x (2 ^ ni) (ic_nx ni nl ng gl gr ln) (ic_bv ni nl ng gl gr bd) (d - t) (ck_st (2 ^ ni) (ic_nx ni nl ng gl gr ln) (ic_bv ni nl ng gl gr bd) d s0 t))
        rw [er]
        rfl
      rw [est]
      exact nm_r (nI_1 t) (ih (t + 1) m _ _ (by omega) (by omega) (ck_Tr_upd h (by rw [er]) rfl))
    · intro hN
      have h2 := ck_x_sp hLt
      exact absurd ((hXF _).2 h2.2.1) (hN _ h2.1)
theorem lx_stT {post : SX → Prop} {d s0 : Nat} (hok : ic_ok ni nl ng gl gr ln li bd) (hs0 : s0 < 2 ^ nl) (hd : d < 2 ^ nl) (hD : ∀ t, t < 2 ^ nl → ck_D (2 ^ ni) (ic_nx ni nl ng gl gr ln) (ic_bv ni nl ng gl gr bd) (2 ^ nl) t (ds t)) (hds : ds s0 = nI d) (hL : ck_L (2 ^ ni) (ic_nx ni nl ng gl gr ln) (ic_bv ni nl ng gl gr bd) d s0) (hp : ∀ ti ts, ck_Tr (2 ^ ni) (ic_nx ni nl ng gl gr ln) (ic_bv ni nl ng gl gr bd) d s0 (d + 1) ti ts → post (nI ni, nI nl, nI ng, bd, rs, nI d, gl, gr, ln, li, ti, ts, ds)) : wpX_storeTrace post (nI ni, nI nl, nI ng, bd, rs, tl, gl, gr, ln, li, ti, ts, ds) (nI s0) := by
  have b1 := ib_pow_le hok.2.2.1
  have hc : (nI s0).toNatClampNeg = s0 := nI_clamp (by omega)
  exact ⟨vp_in_nI (by omega) (by omega), nm_r (e' := nI d) (by rw [hc]; exact hds) ⟨d + 2, lx_12 hok hs0 hd hD hL hp (d + 1) 0 (d + 2) ti ts (by omega) (by omega) (fun t ht => absurd ht (by omega))⟩⟩
theorem lx_check {post : Int32 → SX → Prop} (hok : ic_ok ni nl ng gl gr ln li bd) (h1 : (∀ j, j < 2 ^ nl → ¬ ck_B (2 ^ ni) (ic_nx ni nl ng gl gr ln) (ic_bv ni nl ng gl gr bd) j (ic_I li nl)) → ∀ ds, post 1 (nI ni, nI nl, nI ng, bd, 1, tl, gl, gr, ln, li, ti, ts, ds)) (h2 : ∀ d, d < 2 ^ nl → ck_L (2 ^ ni) (ic_nx ni nl ng gl gr ln) (ic_bv ni nl ng gl gr bd) d (ic_I li nl) → ∀ ti ts ds, ck_Tr (2 ^ ni) (ic_nx ni nl ng gl gr ln) (ic_bv ni nl ng gl gr bd) d (ic_I li nl) (d + 1) ti ts → post 2 (nI ni, nI nl, nI ng, bd, 2, nI d, gl, gr, ln, li, ti, ts, ds)) : wpX_check post (nI ni, nI nl, nI ng, bd, rs, tl, gl, gr, ln, li, ti, ts, ds) := by
  have b1 := ib_pow_le hok.2.2.1
  have hI := lx_I_lt hok
  have hc : (nI (ic_I li nl)).toNatClampNeg = ic_I li nl := nI_clamp (by omega)
  unfold wpX_check
  refine lx_md hok (fun ds hD => ?_)
  refine lx_is hok ⟨vp_in_nI (by omega) (by omega), ?_⟩
  rcases hD _ hI with ⟨d, hd, ed, hL⟩ | ⟨em, hn⟩
  · refine br_f (by rw [hc, ed]; exact ib_nm1 (by omega)) ?_
    exact lx_stT hok hI hd hD ed hL (fun ti ts hT => h2 d hd hL ti ts ds hT)
  · exact br_t (by rw [hc]; exact em) (h1 hn ds)
end
