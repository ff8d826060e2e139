/-! literals, latches, edits, the constructor -/
section
variable {ni nl ng : Nat} {bd rs tl : Int32} {gl gr ln li ti ts ds vs bi tx tz : Nat → Int32}
theorem la_2F (ni nl ng : Nat) : 2 * (((1 + nI ni) + nI nl) + nI ng) = nI (2 * (1 + ni + nl + ng)) := by
  rw [ib_1, nI_add, nI_add, ib_2]
theorem la_xv {post : Int32 → Prop} {p : Int32} (hok : ic_ok ni nl ng gl gr ln li bd) (h1 : ic_li (1 + ni + nl + ng) p → post 1) (h0 : ¬ ic_li (1 + ni + nl + ng) p → post 0) : wpX_isValid post (nI ni, nI nl, nI ng, bd, rs, tl, gl, gr, ln, li, ti, ts, ds) p := by
  obtain ⟨hni, hl1, hl4, hng, _⟩ := hok
  by_cases hp : p < 0
  · exact br_t hp (h0 (fun ⟨l, e, hl⟩ => nI_pos (n := l) (by omega) (e ▸ hp)))
  · obtain ⟨j, hj, rfl⟩ := nI_of hp
    refine br_f hp ?_
    unfold wpX_variableCount
    dsimp only
    rw [la_2F]
    by_cases hl : j < 2 * (1 + ni + nl + ng)
    · exact br_f (nI_ge hl (by omega)) (h1 ⟨j, rfl, hl⟩)
    · refine br_t (nI_le (by omega) hj) (h0 (fun ⟨l, e, hl2⟩ => ?_))
      rw [nI_eq hj (by omega)] at e
      omega
theorem la_yv {post : Int32 → Prop} {p : Int32} (hok : ic_ok ni nl ng gl gr ln li bd) (h1 : ic_li (1 + ni + nl + ng) p → post 1) (h0 : ¬ ic_li (1 + ni + nl + ng) p → post 0) : wpY_valid post (nI ni, nI nl, nI ng, bd, rs, tl, gl, gr, ln, li, vs, bi, tx, tz) p := by
  obtain ⟨hni, hl1, hl4, hng, _⟩ := hok
  by_cases hp : p < 0
  · exact br_t hp (h0 (fun ⟨l, e, hl⟩ => nI_pos (n := l) (by omega) (e ▸ hp)))
  · obtain ⟨j, hj, rfl⟩ := nI_of hp
    refine br_f hp ?_
    rw [la_2F]
    by_cases hl : j < 2 * (1 + ni + nl + ng)
    · exact br_f (nI_ge hl (by omega)) (h1 ⟨j, rfl, hl⟩)
    · refine br_t (nI_le (by omega) hj) (h0 (fun ⟨l, e, hl2⟩ => ?_))
      rw [nI_eq hj (by omega)] at e
      omega
theorem la_and {p q : Int32} (hok : ic_ok ni nl ng gl gr ln li bd) (hg : ng < 16) (hp : ic_li (1 + ni + nl + ng) p) (hq : ic_li (1 + ni + nl + ng) q) : ic_ok ni nl (ng + 1) (upd gl ng p) (upd gr ng q) ln li bd := by
  obtain ⟨hni, hl1, hl4, hng, hgl, hgr, hln, hli, hbd⟩ := hok
  refine ⟨hni, hl1, hl4, by omega, ?_, ?_, fun j hj => ic_li_up (hln j hj) (by omega), hli, ic_li_up hbd (by omega)⟩
  · intro g hg2
    by_cases e : g = ng
    · subst e; rw [pk_us]; exact hp
    · rw [pk_un e]; exact hgl g (by omega)
  · intro g hg2
    by_cases e : g = ng
    · subst e; rw [pk_us]; exact hq
    · rw [pk_un e]; exact hgr g (by omega)
theorem la_latch {j b : Nat} {p : Int32} (hok : ic_ok ni nl ng gl gr ln li bd) (hp : ic_li (1 + ni + nl + ng) p) (hb : b < 2) : ic_ok ni nl ng gl gr (upd ln j p) (upd li j (nI b)) bd := by
  obtain ⟨hni, hl1, hl4, hng, hgl, hgr, hln, hli, hbd⟩ := hok
  refine ⟨hni, hl1, hl4, hng, hgl, hgr, ?_, ?_, hbd⟩
  · intro i hi
    by_cases e : i = j
    · subst e; rw [pk_us]; exact hp
    · rw [pk_un e]; exact hln i hi
  · intro i hi
    by_cases e : i = j
    · subst e; rw [pk_us]; exact ⟨b, rfl, hb⟩
    · rw [pk_un e]; exact hli i hi
theorem la_bad {p : Int32} (hok : ic_ok ni nl ng gl gr ln li bd) (hp : ic_li (1 + ni + nl + ng) p) : ic_ok ni nl ng gl gr ln li p := by
  obtain ⟨hni, hl1, hl4, hng, hgl, hgr, hln, hli, hbd⟩ := hok
  exact ⟨hni, hl1, hl4, hng, hgl, hgr, hln, hli, hp⟩
theorem la_ok0 {ni nl : Nat} (h1 : ni ≤ 3) (h2 : 1 ≤ nl) (h3 : nl ≤ 4) : ic_ok ni nl 0 (fun _ => 0) (fun _ => 0) (ic_l0 ni nl) (ic_i0 nl) 0 := by
  refine ⟨h1, h2, h3, by omega, fun g hg => absurd hg (by omega), fun g hg => absurd hg (by omega), ?_, ?_, ⟨0, rfl, by omega⟩⟩
  · intro j hj
    exact ⟨2 * (1 + ni + j), ic_l0_at ni nl j hj, by omega⟩
  · intro j hj
    exact ⟨0, ic_i0_at nl j, by omega⟩
theorem la_x85 {post : SX → Prop} {ni nl : Nat} (h3 : nl ≤ 4) (hp : post (nI ni, nI nl, 0, 0, 0, 0, (fun _ => 0), (fun _ => 0), ic_l0 ni nl, ic_i0 nl, (fun _ => 0), (fun _ => 0), (fun _ => 0))) : ∀ d j n : Nat, j + d = nl → d < n → wX_init_85 post (nI ni) (nI nl) 0 0 0 0 n (nI j) (fun _ => 0) (fun _ => 0) (ic_l0 ni j) (ic_i0 j) (fun _ => 0) (fun _ => 0) (fun _ => 0) := by
  intro d
  induction d with
  | zero =>
    intro j n hj hn
    obtain ⟨m, rfl⟩ : ∃ m, n = m + 1 := ⟨n - 1, by omega⟩
    have e : j = nl := by omega
    subst e
    exact br_t (nI_le (by omega) (by omega)) hp
  | succ d ih =>
    intro j n hj hn
    obtain ⟨m, rfl⟩ : ∃ m, n = m + 1 := ⟨n - 1, by omega⟩
    have hc : (nI j).toNatClampNeg = j := nI_clamp (by omega)
    have e2 : 2 * ((1 + nI ni) + nI j) = nI (2 * (1 + ni + j)) := by rw [ib_1, nI_add, ib_2]
    exact br_f (nI_ge (by omega) (by omega)) ⟨vp_in_nI (by omega) (by omega), nm_r (e' := ic_l0 ni (j + 1)) (by rw [hc, e2]; rfl) ⟨vp_in_nI (by omega) (by omega), nm_r (e' := ic_i0 (j + 1)) (by rw [hc]; rfl) (nm_r (nI_1 j) (ih (j + 1) m (by omega) (by omega)))⟩⟩
theorem la_y113 {post : SY → Prop} {ni nl : Nat} (h3 : nl ≤ 4) (hp : post (nI ni, nI nl, 0, 0, 0, 0, (fun _ => 0), (fun _ => 0), ic_l0 ni nl, ic_i0 nl, (fun _ => 0), (fun _ => 0), (fun _ => 0), (fun _ => 0))) : ∀ d j n : Nat, j + d = nl → d < n → wY_init_113 post (nI ni) (nI nl) 0 0 0 0 n (nI j) (fun _ => 0) (fun _ => 0) (ic_l0 ni j) (ic_i0 j) (fun _ => 0) (fun _ => 0) (fun _ => 0) (fun _ => 0) := by
  intro d
  induction d with
  | zero =>
    intro j n hj hn
    obtain ⟨m, rfl⟩ : ∃ m, n = m + 1 := ⟨n - 1, by omega⟩
    have e : j = nl := by omega
    subst e
    exact br_t (nI_le (by omega) (by omega)) hp
  | succ d ih =>
    intro j n hj hn
    obtain ⟨m, rfl⟩ : ∃ m, n = m + 1 := ⟨n - 1, by omega⟩
    have hc : (nI j).toNatClampNeg = j := nI_clamp (by omega)
    have e2 : 2 * ((1 + nI ni) + nI j) = nI (2 * (1 + ni + j)) := by rw [ib_1, nI_add, ib_2]
    exact br_f (nI_ge (by omega) (by omega)) ⟨vp_in_nI (by omega) (by omega), nm_r (e' := ic_l0 ni (j + 1)) (by rw [hc, e2]; rfl) ⟨vp_in_nI (by omega) (by omega), nm_r (e' := ic_i0 (j + 1)) (by rw [hc]; rfl) (nm_r (nI_1 j) (ih (j + 1) m (by omega) (by omega)))⟩⟩
theorem la_c3 (p : Int32) : ∃ ni : Nat, ni ≤ 3 ∧ (∀ post : Int32 → Prop, post (nI ni) → wpX_clamp post p 0 3) ∧ (∀ (post : SY → Prop) (p1 : Int32), wY_init_85 post p1 (nI ni) 0 0 0 0 0 0 (fun _ => 0) (fun _ => 0) (fun _ => 0) (fun _ => 0) (fun _ => 0) (fun _ => 0) (fun _ => 0) (fun _ => 0) → wpY_init post p p1) := by
  by_cases h0 : 0 ≤ p
  · by_cases h3 : p ≤ 3
    · obtain ⟨j, hj, rfl⟩ := nI_of2 (M := 3) (n := 3) (by decide) (Int32.not_lt.mpr h0) h3
      exact ⟨j, hj, fun post h => br_t h0 (br_t h3 h), fun post p1 h => br_t h0 (br_t h3 h)⟩
    · exact ⟨3, by omega, fun post h => br_t h0 (br_f h3 h), fun post p1 h => br_t h0 (br_f h3 h)⟩
  · exact ⟨0, by omega, fun post h => br_f h0 h, fun post p1 h => br_f h0 h⟩
theorem la_c4 (p : Int32) : ∃ nl : Nat, 1 ≤ nl ∧ nl ≤ 4 ∧ (∀ post : Int32 → Prop, post (nI nl) → wpX_clamp post p 1 4) ∧ (∀ (post : SY → Prop) (z : Int32), (∃ n, wY_init_113 post z (nI nl) 0 0 0 0 n 0 (fun _ => 0) (fun _ => 0) (fun _ => 0) (fun _ => 0) (fun _ => 0) (fun _ => 0) (fun _ => 0) (fun _ => 0)) → wY_init_85 post p z 0 0 0 0 0 0 (fun _ => 0) (fun _ => 0) (fun _ => 0) (fun _ => 0) (fun _ => 0) (fun _ => 0) (fun _ => 0) (fun _ => 0)) := by
  by_cases h0 : 1 ≤ p
  · by_cases h3 : p ≤ 4
    · have h1 : (0 : Int32) ≤ p := Int32.le_trans (by decide) h0
      obtain ⟨j, hj, rfl⟩ := nI_of2 (M := 4) (n := 4) (by decide) (Int32.not_lt.mpr h1) h3
      have h2 : nI 1 ≤ nI j := h0
      rw [nI_leI (by omega) (by omega)] at h2
      exact ⟨j, h2, hj, fun post h => br_t h0 (br_t h3 h), fun post z h => br_t h0 (br_t h3 h)⟩
    · exact ⟨4, by omega, by omega, fun post h => br_t h0 (br_f h3 h), fun post z h => br_t h0 (br_f h3 h)⟩
  · exact ⟨1, by omega, by omega, fun post h => br_f h0 h, fun post z h => br_f h0 h⟩
end
