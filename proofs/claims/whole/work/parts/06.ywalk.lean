/-! Y's private methods against the pure circuit -/
section
variable {ni nl ng : Nat} {bd rs tl : Int32} {gl gr ln li vs bi tx tz : Nat → Int32}
theorem ly_lv {post : Int32 → Prop} {V n l : Nat} {z : Int32} (hvs : ic_vs V n vs) (hz : z = nI l) (hl : l < 2 * n) (hn : n ≤ 24) (hp : post (nI (ic_lt V l))) : wpY_litVal post (nI ni, nI nl, nI ng, bd, rs, tl, gl, gr, ln, li, vs, bi, tx, tz) z := by
  subst hz
  refine nm_r (ib_shr1 (by omega)) (br_f (nI_pos (by omega)) (br_t (nI_lt (b := 24) (by omega) (by omega)) ⟨vp_in_nI (by omega) (by omega), ?_⟩))
  rw [nI_clamp (n := l / 2) (by omega), ic_yl (hvs (l / 2) (by omega))]
  exact hp
theorem ly_72 {post : SY → Prop} {s x : Nat} (hok : ic_ok ni nl ng gl gr ln li bd) (hs : s < 2 ^ nl) (hx : x < 2 ^ ni) (hp : ∀ vs, ic_vs (ic_V ni nl gl gr s x ng) (1 + ni + nl + ng) vs → post (nI ni, nI nl, nI ng, bd, rs, tl, gl, gr, ln, li, vs, bi, tx, tz)) : ∀ (d g n : Nat) (vs : Nat → Int32), g + d = ng → d < n → ic_vs (ic_V ni nl gl gr s x g) (1 + ni + nl + g) vs → wY_evalAll_72 post (nI ni) (nI nl) (nI ng) bd rs tl n (nI g) gl gr ln li vs bi tx tz := by
  obtain ⟨hni, hl1, hl4, hng, hgl, hgr, _⟩ := hok
  intro d
  induction d with
  | zero =>
    intro g n vs hg hn h
    obtain ⟨m, rfl⟩ : ∃ m, n = m + 1 := ⟨n - 1, by omega⟩
    have e : g = ng := by omega
    subst e
    exact br_t (nI_le (by omega) (by omega)) (hp vs h)
  | succ d ih =>
    intro g n vs hg hn h
    obtain ⟨m, rfl⟩ : ∃ m, n = m + 1 := ⟨n - 1, by omega⟩
    obtain ⟨l, el, hl⟩ := hgl g (by omega)
    obtain ⟨r, er, hr⟩ := hgr g (by omega)
    have hc : (nI g).toNatClampNeg = g := nI_clamp (by omega)
    have eF : ((1 + nI ni) + nI nl) + nI g = nI (1 + ni + nl + g) := by rw [ib_1, nI_add, nI_add]
    have hc2 : (nI (1 + ni + nl + g)).toNatClampNeg = 1 + ni + nl + g := nI_clamp (by omega)
    refine br_f (nI_ge (by omega) (by omega)) ⟨vp_in_nI (by omega) (by omega), ?_⟩
    refine ly_lv (l := l) h (by rw [hc, el]) hl (by omega) ⟨vp_in_nI (by omega) (by omega), ?_⟩
    refine ly_lv (l := r) h (by rw [hc, er]) hr (by omega) ⟨?_, ?_⟩
    · rw [eF]; exact vp_in_nI (by omega) (by omega)
    · refine nm_r (e' := upd vs (1 + ni + nl + g) (nI (ic_lt (ic_V ni nl gl gr s x g) l * ic_lt (ic_V ni nl gl gr s x g) r))) ?_ (nm_r (nI_1 g) (ih (g + 1) m _ (by omega) (by omega) ?_))
      · rw [eF, hc2, ib_and2 _ (ic_lt2 _ _) _ (ic_lt2 _ _)]
      · have h2 := ic_vs_set h (ic_V_lt hs hx g) (ic_m2 (ic_lt2 (ic_V ni nl gl gr s x g) l) (ic_lt2 (ic_V ni nl gl gr s x g) r))
        have e3 : ic_V ni nl gl gr s x (g + 1) = ic_V ni nl gl gr s x g + ic_lt (ic_V ni nl gl gr s x g) l * ic_lt (ic_V ni nl gl gr s x g) r * 2 ^ (1 + ni + nl + g) := by
          show ic_V ni nl gl gr s x g + ic_lt (ic_V ni nl gl gr s x g) (gl g).toNatClampNeg * ic_lt (ic_V ni nl gl gr s x g) (gr g).toNatClampNeg * 2 ^ (1 + ni + nl + g) = _
          rw [lx_cl el (by omega), lx_cl er (by omega)]
        rw [e3]
        exact h2
theorem ly_38 {post : SY → Prop} {s x : Nat} (hok : ic_ok ni nl ng gl gr ln li bd) (hs : s < 2 ^ nl) (hx : x < 2 ^ ni) (hp : ∀ vs, ic_vs (ic_V ni nl gl gr s x ng) (1 + ni + nl + ng) vs → post (nI ni, nI nl, nI ng, bd, rs, tl, gl, gr, ln, li, vs, bi, tx, tz)) : ∀ (d j n : Nat) (vs : Nat → Int32), j + d = nl → d < n → ic_vs (ic_V ni nl gl gr s x 0) (1 + ni + j) vs → wY_evalAll_38 post (nI s) (nI ni) (nI nl) (nI ng) bd rs tl n (nI j) gl gr ln li vs bi tx tz := by
  have hok2 := hok
  obtain ⟨hni, hl1, hl4, hng, _⟩ := hok2
  have b1 := ib_pow_le hl4
  intro d
  induction d with
  | zero =>
    intro j n vs hj hn h
    obtain ⟨m, rfl⟩ : ∃ m, n = m + 1 := ⟨n - 1, by omega⟩
    have e : j = nl := by omega
    subst e
    exact br_t (nI_le (by omega) (by omega)) ⟨ng + 1, ly_72 hok hs hx hp ng 0 (ng + 1) vs (by omega) (by omega) h⟩
  | succ d ih =>
    intro j n vs hj hn h
    obtain ⟨m, rfl⟩ : ∃ m, n = m + 1 := ⟨n - 1, by omega⟩
    have eF : (1 + nI ni) + nI j = nI (1 + ni + j) := by rw [ib_1, nI_add]
    have hc2 : (nI (1 + ni + j)).toNatClampNeg = 1 + ni + j := nI_clamp (by omega)
    refine br_f (nI_ge (by omega) (by omega)) ⟨?_, ?_⟩
    · rw [eF]; exact vp_in_nI (by omega) (by omega)
    · refine nm_r (e' := upd vs (1 + ni + j) (nI (s / 2 ^ j % 2))) ?_ (nm_r (nI_1 j) (ih (j + 1) m _ (by omega) (by omega) ?_))
      · rw [eF, hc2, ib_shr (by omega) (by omega), ib_and1]
      · exact ic_vs_put h (by rw [← ic_V0_s (j := j) hx]; rfl)
theorem ly_9 {post : SY → Prop} {s x : Nat} (hok : ic_ok ni nl ng gl gr ln li bd) (hs : s < 2 ^ nl) (hx : x < 2 ^ ni) (hp : ∀ vs, ic_vs (ic_V ni nl gl gr s x ng) (1 + ni + nl + ng) vs → post (nI ni, nI nl, nI ng, bd, rs, tl, gl, gr, ln, li, vs, bi, tx, tz)) : ∀ (d j n : Nat) (vs : Nat → Int32), j + d = ni → d < n → ic_vs (ic_V ni nl gl gr s x 0) (1 + j) vs → wY_evalAll_9 post (nI s) (nI x) (nI ni) (nI nl) (nI ng) bd rs tl n (nI j) gl gr ln li vs bi tx tz := by
  have hok2 := hok
  obtain ⟨hni, hl1, hl4, hng, _⟩ := hok2
  have b2 := ib_pow_le8 hni
  intro d
  induction d with
  | zero =>
    intro j n vs hj hn h
    obtain ⟨m, rfl⟩ : ∃ m, n = m + 1 := ⟨n - 1, by omega⟩
    have e : j = ni := by omega
    subst e
    exact br_t (nI_le (by omega) (by omega)) ⟨nl + 1, ly_38 hok hs hx hp nl 0 (nl + 1) vs (by omega) (by omega) h⟩
  | succ d ih =>
    intro j n vs hj hn h
    obtain ⟨m, rfl⟩ : ∃ m, n = m + 1 := ⟨n - 1, by omega⟩
    have eF : 1 + nI j = nI (1 + j) := ib_1 j
    have hc2 : (nI (1 + j)).toNatClampNeg = 1 + j := nI_clamp (by omega)
    refine br_f (nI_ge (by omega) (by omega)) ⟨?_, ?_⟩
    · rw [eF]; exact vp_in_nI (by omega) (by omega)
    · refine nm_r (e' := upd vs (1 + j) (nI (x / 2 ^ j % 2))) ?_ (nm_r (nI_1 j) (ih (j + 1) m _ (by omega) (by omega) ?_))
      · rw [eF, hc2, ib_shr (by omega) (by omega), ib_and1]
      · exact ic_vs_put h (by rw [← ic_V0_x (s := s) (x := x) (show j < ni by omega)]; rfl)
theorem ly_ev {post : SY → Prop} {s x : Nat} (hok : ic_ok ni nl ng gl gr ln li bd) (hs : s < 2 ^ nl) (hx : x < 2 ^ ni) (hp : ∀ vs, ic_vs (ic_V ni nl gl gr s x ng) (1 + ni + nl + ng) vs → post (nI ni, nI nl, nI ng, bd, rs, tl, gl, gr, ln, li, vs, bi, tx, tz)) : wpY_evalAll post (nI ni, nI nl, nI ng, bd, rs, tl, gl, gr, ln, li, vs, bi, tx, tz) (nI s) (nI x) := by
  refine nm_e ⟨ni + 1, ly_9 hok hs hx hp ni 0 (ni + 1) (upd vs 0 0) (by omega) (by omega) ?_⟩
  intro v hv
  have e : v = 0 := by omega
  subst e
  rw [pk_us]
  show _ = nI ((x * 2 ^ 1 + s * 2 ^ (1 + ni)) / 2 ^ 0 % 2)
  rw [ic_V0_0]
  rfl
theorem ly_ns_loop {post : Int32 → SY → Prop} {V : Nat} (hok : ic_ok ni nl ng gl gr ln li bd) (hvs : ic_vs V (1 + ni + nl + ng) vs) (hp : post (nI (ic_N ln V nl)) (nI ni, nI nl, nI ng, bd, rs, tl, gl, gr, ln, li, vs, bi, tx, tz)) : ∀ d j n : Nat, j + d = nl → d < n → wY_nextState_11 post (nI ni) (nI nl) (nI ng) bd rs tl gl gr ln li vs bi tx tz n (nI (ic_N ln V j)) (nI j) := by
  obtain ⟨hni, hl1, hl4, hng, hgl, hgr, hln, _⟩ := hok
  intro d
  induction d with
  | zero =>
    intro j n hj hn
    obtain ⟨m, rfl⟩ : ∃ m, n = m + 1 := ⟨n - 1, by omega⟩
    have e : j = nl := by omega
    rw [e]
    exact br_t (nI_le (by omega) (by omega)) hp
  | succ d ih =>
    intro j n hj hn
    obtain ⟨m, rfl⟩ : ∃ m, n = m + 1 := ⟨n - 1, by omega⟩
    obtain ⟨l, el, hl⟩ := hln j (by omega)
    have hc : (nI j).toNatClampNeg = j := nI_clamp (by omega)
    refine br_f (nI_ge (by omega) (by omega)) ⟨vp_in_nI (by omega) (by omega), ?_⟩
    refine ly_lv (l := l) hvs (by rw [hc, el]) hl (by omega) ?_
    refine nm_r (e' := nI (ic_N ln V (j + 1))) ?_ (nm_r (nI_1 j) (ih (j + 1) m (by omega) (by omega)))
    rw [lx_shb (ic_lt2 _ _) (by omega), ib_orA _ (ic_N_lt ln V j)]
    show _ = nI (ic_N ln V j + ic_lt V (ln j).toNatClampNeg * 2 ^ j)
    rw [lx_cl el (by omega)]
theorem ly_ns {post : Int32 → SY → Prop} {s x : Nat} (hok : ic_ok ni nl ng gl gr ln li bd) (hs : s < 2 ^ nl) (hx : x < 2 ^ ni) (hp : ∀ vs, post (nI ((ic_nx ni nl ng gl gr ln) s x)) (nI ni, nI nl, nI ng, bd, rs, tl, gl, gr, ln, li, vs, bi, tx, tz)) : wpY_nextState post (nI ni, nI nl, nI ng, bd, rs, tl, gl, gr, ln, li, vs, bi, tx, tz) (nI s) (nI x) := by
  unfold wpY_nextState
  exact ly_ev hok hs hx (fun vs hvs => ⟨nl + 1, ly_ns_loop hok hvs (hp vs) nl 0 (nl + 1) (by omega) (by omega)⟩)
theorem ly_bv {post : Int32 → SY → Prop} {s x : Nat} (hok : ic_ok ni nl ng gl gr ln li bd) (hs : s < 2 ^ nl) (hx : x < 2 ^ ni) (hp : ∀ vs, post (nI ((ic_bv ni nl ng gl gr bd) s x)) (nI ni, nI nl, nI ng, bd, rs, tl, gl, gr, ln, li, vs, bi, tx, tz)) : wpY_badVal post (nI ni, nI nl, nI ng, bd, rs, tl, gl, gr, ln, li, vs, bi, tx, tz) (nI s) (nI x) := by
  have hok2 := hok
  obtain ⟨hni, hl1, hl4, hng, hgl, hgr, hln, hli, l, el, hl⟩ := hok2
  have hb : (ic_bv ni nl ng gl gr bd) s x = ic_lt (ic_V ni nl gl gr s x ng) l := by
    unfold ic_bv
    rw [lx_cl el (by omega)]
  unfold wpY_badVal
  refine ly_ev hok hs hx (fun vs hvs => ?_)
  refine ly_lv (l := l) hvs el hl (by omega) ?_
  rw [← hb]
  exact hp vs
theorem ly_is_loop {post : Int32 → Prop} (hok : ic_ok ni nl ng gl gr ln li bd) (hp : post (nI (ic_I li nl))) : ∀ d j n : Nat, j + d = nl → d < n → wY_initState_4 post (nI ni) (nI nl) (nI ng) bd rs tl gl gr ln li vs bi tx tz n (nI (ic_I li j)) (nI j) := by
  obtain ⟨hni, hl1, hl4, hng, hgl, hgr, hln, hli, _⟩ := hok
  have hb : ∀ j, j < nl → (li j).toNatClampNeg < 2 := by
    intro j hj
    obtain ⟨b, eb, hb⟩ := hli j hj
    rw [lx_cl eb (by omega)]; exact hb
  intro d
  induction d with
  | zero =>
    intro j n hj hn
    obtain ⟨m, rfl⟩ : ∃ m, n = m + 1 := ⟨n - 1, by omega⟩
    have e : j = nl := by omega
    rw [e]
    exact br_t (nI_le (by omega) (by omega)) hp
  | succ d ih =>
    intro j n hj hn
    obtain ⟨m, rfl⟩ : ∃ m, n = m + 1 := ⟨n - 1, by omega⟩
    obtain ⟨b, eb, hb2⟩ := hli j (by omega)
    have hc : (nI j).toNatClampNeg = j := nI_clamp (by omega)
    refine br_f (nI_ge (by omega) (by omega)) ⟨vp_in_nI (by omega) (by omega), ?_⟩
    refine nm_r (e' := nI (ic_I li (j + 1))) ?_ (nm_r (nI_1 j) (ih (j + 1) m (by omega) (by omega)))
    rw [hc, eb, ib_and1, Nat.mod_eq_of_lt hb2, lx_shb hb2 (by omega), ib_orA _ (ic_I_lt hb j (by omega))]
    show _ = nI (ic_I li j + (li j).toNatClampNeg * 2 ^ j)
    rw [lx_cl eb (by omega)]
theorem ly_is {post : Int32 → Prop} (hok : ic_ok ni nl ng gl gr ln li bd) (hp : post (nI (ic_I li nl))) : wpY_initState post (nI ni, nI nl, nI ng, bd, rs, tl, gl, gr, ln, li, vs, bi, tx, tz) :=
  ⟨nl + 1, ly_is_loop hok hp nl 0 (nl + 1) (by omega) (by omega)⟩
end
