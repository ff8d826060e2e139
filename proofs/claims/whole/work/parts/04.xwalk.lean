/-! X's private methods against the pure circuit -/
section
variable {ni nl ng : Nat} {bd rs tl : Int32} {gl gr ln li ti ts ds : Nat → Int32}
theorem lx_shb {b k : Nat} (hb : b < 2) (hk : k ≤ 30) : nI b <<< (nI k &&& 31) = nI (b * 2 ^ k) := by
  have h1 : b * 2 ^ k ≤ 1 * 2 ^ 30 := Nat.mul_le_mul (by omega) (Nat.pow_le_pow_right (by decide) hk)
  exact ib_shl (by omega) (by omega)
theorem lx_lv {post : Int32 → Prop} {V l : Nat} {z : Int32} (hV : V < 2 ^ 31) (hz : z = nI l) (hl : l < 64) (h : post (nI (ic_lt V l))) : wpX_literalValue post z (nI V) := by
  subst hz
  unfold wpX_literalValue
  rw [ic_xl hV hl]
  exact h
theorem lx_cl {z : Int32} {l : Nat} (h : z = nI l) (hl : l < 64) : z.toNatClampNeg = l := by
  rw [h]; exact nI_clamp (by omega)
theorem lx_vv_loop {post : Int32 → Prop} {s x : Nat} (hok : ic_ok ni nl ng gl gr ln li bd) (hs : s < 2 ^ nl) (hx : x < 2 ^ ni) (hp : post (nI (ic_V ni nl gl gr s x ng))) : ∀ d g n : Nat, g + d = ng → d < n → wX_variableValues_53 post (nI (1 + ni + nl)) (nI ni) (nI nl) (nI ng) bd rs tl gl gr ln li ti ts ds n (nI (ic_V ni nl gl gr s x g)) (nI g) := by
  obtain ⟨hni, hl1, hl4, hng, hgl, hgr, _⟩ := hok
  intro d
  induction d with
  | zero =>
    intro g n hg hn
    obtain ⟨m, rfl⟩ : ∃ m, n = m + 1 := ⟨n - 1, by omega⟩
    have e : g = ng := by omega
    rw [e]
    exact br_t (nI_le (by omega) (by omega)) hp
  | succ d ih =>
    intro g n hg hn
    obtain ⟨m, rfl⟩ : ∃ m, n = m + 1 := ⟨n - 1, by omega⟩
    obtain ⟨l, el, hl⟩ := hgl g (by omega)
    obtain ⟨r, er, hr⟩ := hgr g (by omega)
    have hV := ic_V_30 (gl := gl) (gr := gr) (g := g) hs hx (by omega)
    have hc : (nI g).toNatClampNeg = g := nI_clamp (by omega)
    refine br_f (nI_ge (by omega) (by omega)) ⟨vp_in_nI (by omega) (by omega), ?_⟩
    refine lx_lv (l := l) hV (by rw [hc, el]) (by omega) ⟨vp_in_nI (by omega) (by omega), ?_⟩
    refine lx_lv (l := r) hV (by rw [hc, er]) (by omega) ?_
    refine nm_r (e' := nI (ic_V ni nl gl gr s x (g + 1))) ?_ (nm_r (nI_1 g) (ih (g + 1) m (by omega) (by omega)))
    rw [ib_and2 _ (ic_lt2 _ _) _ (ic_lt2 _ _), nI_add, lx_shb (ic_m2 (ic_lt2 _ _) (ic_lt2 _ _)) (by omega), ib_orA _ (ic_V_lt hs hx g)]
    show _ = nI (ic_V ni nl gl gr s x g + ic_lt (ic_V ni nl gl gr s x g) (gl g).toNatClampNeg * ic_lt (ic_V ni nl gl gr s x g) (gr g).toNatClampNeg * 2 ^ (1 + ni + nl + g))
    rw [lx_cl el (by omega), lx_cl er (by omega)]
theorem lx_vv {post : Int32 → Prop} {s x : Nat} {st inp : Int32} (hok : ic_ok ni nl ng gl gr ln li bd) (hs : s < 2 ^ nl) (hx : x < 2 ^ ni) (h1 : st &&& (((1 : Int32) <<< (nI nl &&& 31)) - 1) = nI s) (h2 : inp &&& (((1 : Int32) <<< (nI ni &&& 31)) - 1) = nI x) (hp : post (nI (ic_V ni nl gl gr s x ng))) : wpX_variableValues post (nI ni, nI nl, nI ng, bd, rs, tl, gl, gr, ln, li, ti, ts, ds) st inp := by
  have hok2 := hok
  obtain ⟨hni, hl1, hl4, hng, hgl, hgr, _⟩ := hok2
  have b1 := ib_pow_le hl4
  have b2 := ib_pow_le8 hni
  have b3 : 2 ^ (1 + ni) = 2 * 2 ^ ni := by rw [Nat.pow_add, Nat.pow_one]
  have b4 : s * 2 ^ (1 + ni) ≤ 16 * 16 := Nat.mul_le_mul (by omega) (by omega)
  refine nm_r (ib_1 ni) (nm_r (nI_add _ _) (nm_r h2 (nm_r h1 (nm_r (e' := nI (ic_V ni nl gl gr s x 0)) ?_ ⟨ng + 1, lx_vv_loop hok hs hx hp ng 0 (ng + 1) (by omega) (by omega)⟩))))
  rw [ib_shl1 (by omega), ib_shl (by omega) (by omega), ib_orA _ (by omega)]
  rfl
theorem lx_mask {s n : Nat} (hn : n ≤ 4) (hs : s < 2 ^ n) : nI s &&& (((1 : Int32) <<< (nI n &&& 31)) - 1) = nI s := by
  have b1 := ib_pow_le hn
  rw [pk_andN (by omega) n (ib_mask n (by omega)), Nat.mod_eq_of_lt hs]
theorem lx_vvN {post : Int32 → Prop} {s x : Nat} (hok : ic_ok ni nl ng gl gr ln li bd) (hs : s < 2 ^ nl) (hx : x < 2 ^ ni) (hp : post (nI (ic_V ni nl gl gr s x ng))) : wpX_variableValues post (nI ni, nI nl, nI ng, bd, rs, tl, gl, gr, ln, li, ti, ts, ds) (nI s) (nI x) :=
  lx_vv hok hs hx (lx_mask hok.2.2.1 hs) (lx_mask (Nat.le_trans hok.1 (by decide)) hx) hp
theorem lx_ns_loop {post : Int32 → Prop} {V : Nat} (hok : ic_ok ni nl ng gl gr ln li bd) (hV : V < 2 ^ 31) (hp : post (nI (ic_N ln V nl))) : ∀ d j n : Nat, j + d = nl → d < n → wX_nextState_4 post (nI V) (nI ni) (nI nl) (nI ng) bd rs tl gl gr ln li ti ts ds n (nI (ic_N ln V j)) (nI j) := by
  obtain ⟨hni, hl1, hl4, hng, hgl, hgr, hln, _⟩ := hok
  intro d
  induction d with
  | zero =>
    intro j n hj hn
    obtain ⟨m, rfl⟩ : ∃ m, n = m + 1 := ⟨n - 1, by omega⟩
    have e : j = nl := by omega
    rw [e]
    exact br_t (nI_le (by omega) (by omega)) hp
  | succ d ih =>
    intro j n hj hn
    obtain ⟨m, rfl⟩ : ∃ m, n = m + 1 := ⟨n - 1, by omega⟩
    obtain ⟨l, el, hl⟩ := hln j (by omega)
    have hc : (nI j).toNatClampNeg = j := nI_clamp (by omega)
    refine br_f (nI_ge (by omega) (by omega)) ⟨vp_in_nI (by omega) (by omega), ?_⟩
    refine lx_lv (l := l) hV (by rw [hc, el]) (by omega) ?_
    refine nm_r (e' := nI (ic_N ln V (j + 1))) ?_ (nm_r (nI_1 j) (ih (j + 1) m (by omega) (by omega)))
    rw [lx_shb (ic_lt2 _ _) (by omega), ib_orA _ (ic_N_lt ln V j)]
    show _ = nI (ic_N ln V j + ic_lt V (ln j).toNatClampNeg * 2 ^ j)
    rw [lx_cl el (by omega)]
theorem lx_ns {post : Int32 → Prop} {V : Nat} (hok : ic_ok ni nl ng gl gr ln li bd) (hV : V < 2 ^ 31) (hp : post (nI (ic_N ln V nl))) : wpX_nextState post (nI ni, nI nl, nI ng, bd, rs, tl, gl, gr, ln, li, ti, ts, ds) (nI V) :=
  ⟨nl + 1, lx_ns_loop hok hV hp nl 0 (nl + 1) (by omega) (by omega)⟩
theorem lx_is_loop {post : Int32 → Prop} (hok : ic_ok ni nl ng gl gr ln li bd) (hp : post (nI (ic_I li nl))) : ∀ d j n : Nat, j + d = nl → d < n → wX_initialState_4 post (nI ni) (nI nl) (nI ng) bd rs tl gl gr ln li ti ts ds n (nI (ic_I li j)) (nI j) := by
  obtain ⟨hni, hl1, hl4, hng, hgl, hgr, hln, hli, _⟩ := hok
  have hb : ∀ j, j < nl → (li j).toNatClampNeg < 2 := by
    intro j hj
    obtain ⟨b, eb, hb⟩ := hli j hj
    rw [lx_cl eb (by omega)]; exact hb
  intro d
  induction d with
  | zero =>
    intro j n hj hn
    obtain ⟨m, rfl⟩ : ∃ m, n = m + 1 := ⟨n - 1, by omega⟩
    have e : j = nl := by omega
    rw [e]
    exact br_t (nI_le (by omega) (by omega)) hp
  | succ d ih =>
    intro j n hj hn
    obtain ⟨m, rfl⟩ : ∃ m, n = m + 1 := ⟨n - 1, by omega⟩
    obtain ⟨b, eb, hb2⟩ := hli j (by omega)
    have hc : (nI j).toNatClampNeg = j := nI_clamp (by omega)
    refine br_f (nI_ge (by omega) (by omega)) ⟨vp_in_nI (by omega) (by omega), ?_⟩
    refine nm_r (e' := nI (ic_I li (j + 1))) ?_ (nm_r (nI_1 j) (ih (j + 1) m (by omega) (by omega)))
    rw [hc, eb, lx_shb hb2 (by omega), ib_orA _ (ic_I_lt hb j (by omega))]
    show _ = nI (ic_I li j + (li j).toNatClampNeg * 2 ^ j)
    rw [lx_cl eb (by omega)]
theorem lx_is {post : Int32 → Prop} (hok : ic_ok ni nl ng gl gr ln li bd) (hp : post (nI (ic_I li nl))) : wpX_initialState post (nI ni, nI nl, nI ng, bd, rs, tl, gl, gr, ln, li, ti, ts, ds) :=
  ⟨nl + 1, lx_is_loop hok hp nl 0 (nl + 1) (by omega) (by omega)⟩
theorem lx_I_lt (hok : ic_ok ni nl ng gl gr ln li bd) : ic_I li nl < 2 ^ nl := by
  obtain ⟨hni, hl1, hl4, hng, hgl, hgr, hln, hli, _⟩ := hok
  refine ic_I_lt (n := nl) ?_ nl (Nat.le_refl _)
  intro j hj
  obtain ⟨b, eb, hb⟩ := hli j hj
  rw [lx_cl eb (by omega)]; exact hb
theorem lx_V31 {s x : Nat} (hok : ic_ok ni nl ng gl gr ln li bd) (hs : s < 2 ^ nl) (hx : x < 2 ^ ni) : ic_V ni nl gl gr s x ng < 2 ^ 31 := by
  obtain ⟨hni, hl1, hl4, hng, _⟩ := hok
  exact ic_V_30 hs hx (by omega)
end
