/-! the relation, and what is owed -/
def i_Rel (_ : Nat) (u : SX) (v : SY) : Prop := ∃ (ni nl ng : Nat) (bd rs tl tl' : Int32) (gl gr ln li ti ts ds vs bi tx tz : Nat → Int32), u = (nI ni, nI nl, nI ng, bd, rs, tl, gl, gr, ln, li, ti, ts, ds) ∧ v = (nI ni, nI nl, nI ng, bd, rs, tl', gl, gr, ln, li, vs, bi, tx, tz) ∧ ic_ok ni nl ng gl gr ln li bd ∧ (rs = 2 → ∃ d : Nat, d < 16 ∧ tl = nI d ∧ tl' = nI d ∧ ∀ t, t < d + 1 → ti t = tx t ∧ ts t = tz t)
theorem i_up {k : Nat} {u : SX} {v : SY} (h : i_Rel k u v) : i_Rel (k + 4) u v := h
theorem la_n02 {P : Prop} : (0 : Int32) = 2 → P := fun h => absurd h (by decide)
theorem la_n12 {P : Prop} : (1 : Int32) = 2 → P := fun h => absurd h (by decide)
theorem i_vc0 (k0 : Int32) (k1 : Int32) : wpX_init (fun u => wpY_init (fun v => i_Rel 2 u v) k0 k1) k0 k1 := by
  obtain ⟨ni, h1, hX, hY⟩ := la_c3 k0
  obtain ⟨nl, h2, h3, hX2, hY2⟩ := la_c4 k1
  unfold wpX_init
  refine hX _ (hX2 _ ⟨nl + 1, la_x85 h3 ?_ nl 0 (nl + 1) (by omega) (by omega)⟩)
  refine hY _ _ (hY2 _ _ ⟨nl + 1, la_y113 h3 ?_ nl 0 (nl + 1) (by omega) (by omega)⟩)
  exact ⟨ni, nl, 0, 0, 0, 0, 0, _, _, _, _, _, _, _, _, _, _, _, rfl, rfl, la_ok0 h1 h2 h3, la_n02⟩
theorem i_vc_addAnd {k : Nat} {u : SX} {v : SY} (I : i_Rel k u v) (hk : k + 4 ≤ 2050) (v1 : Int32) (v2 : Int32) : wpX_addAnd (fun r u' => wpY_addAnd (fun r' v' => r' = r ∧ i_Rel (k + 4) u' v') v v1 v2) u v1 v2 := by
  have I' := I
  obtain ⟨ni, nl, ng, bd, rs, tl, tl', gl, gr, ln, li, ti, ts, ds, vs, bi, tx, tz, rfl, rfl, hok, ht⟩ := I
  have hng := hok.2.2.2.1
  have hc : (nI ng).toNatClampNeg = ng := nI_clamp (by omega)
  have hok2 := hok
  obtain ⟨hni, hl1, hl4, _⟩ := hok2
  by_cases hg : ng < 16
  · have hg2 : ¬ nI ng = 16 := by
      intro e
      have e2 : nI ng = nI 16 := e
      rw [nI_eq (by omega) (by omega)] at e2
      omega
    refine br_f (nI_ge (b := 16) hg (by omega)) (la_xv hok (fun h1 => br_f (by decide) (la_xv hok (fun h2 => br_f (by decide) ?_) (fun h2 => br_t rfl ?_))) (fun h1 => br_t rfl ?_))
    · unfold wpX_variableCount
      dsimp only
      refine nm_r (la_2F ni nl ng) ⟨vp_in_nI hg (by omega), nm_r (e' := upd gl ng v1) (by rw [hc]) ⟨vp_in_nI hg (by omega), nm_r (e' := upd gr ng v2) (by rw [hc]) (nm_r (nI_1 ng) ?_)⟩⟩
      refine br_f hg2 (la_yv hok (fun _ => br_f (by decide) (la_yv hok (fun _ => br_f (by decide) ?_) (fun h => absurd h2 h))) (fun h => absurd h1 h))
      refine ⟨vp_in_nI hg (by omega), nm_r (e' := upd gl ng v1) (by rw [hc]) ⟨vp_in_nI hg (by omega), nm_r (e' := upd gr ng v2) (by rw [hc]) (nm_r (la_2F ni nl ng) (nm_r (nI_1 ng) ⟨rfl, ?_⟩))⟩⟩
      exact ⟨ni, nl, ng + 1, bd, 0, tl, tl', _, _, _, _, _, _, _, _, _, _, _, rfl, rfl, la_and hok hg h1 h2, la_n02⟩
    · exact br_f hg2 (la_yv hok (fun _ => br_f (by decide) (la_yv hok (fun h => absurd h h2) (fun _ => br_t rfl ⟨rfl, I'⟩))) (fun h => absurd h1 h))
    · exact br_f hg2 (la_yv hok (fun h => absurd h h1) (fun _ => br_t rfl ⟨rfl, I'⟩))
  · have e : ng = 16 := by omega
    subst e
    exact br_t (nI_le (a := 16) (by omega) (by omega)) (br_t rfl ⟨rfl, I'⟩)
theorem i_vc_setLatch {k : Nat} {u : SX} {v : SY} (I : i_Rel k u v) (hk : k + 4 ≤ 2050) (v1 : Int32) (v2 : Int32) (v3 : Int32) : wpX_setLatch (fun r u' => wpY_setLatch (fun r' v' => r' = r ∧ i_Rel (k + 4) u' v') v v1 v2 v3) u v1 v2 v3 := by
  have I' := I
  obtain ⟨ni, nl, ng, bd, rs, tl, tl', gl, gr, ln, li, ti, ts, ds, vs, bi, tx, tz, rfl, rfl, hok, ht⟩ := I
  have hok2 := hok
  obtain ⟨hni, hl1, hl4, hng, _⟩ := hok2
  unfold wpX_setLatch
  rcases pk_ix v1 (n := nl) (by omega) with h0 | h0 | ⟨j, hj, rfl⟩
  · exact br_t h0 (br_t rfl (br_t h0 ⟨rfl, I'⟩))
  · have h1 : ¬ v1 < 0 := fun h => absurd (Int32.lt_of_le_of_lt h0 h) (nI_pos (by omega))
    have h2 : ¬ v1 < nI nl := Int32.not_lt.mpr h0
    exact br_f h1 (br_t h0 (br_t rfl (br_f h1 (br_f h2 ⟨rfl, I'⟩))))
  · have hc : (nI j).toNatClampNeg = j := nI_clamp (by omega)
    have h1 : ¬ nI j < 0 := nI_pos (by omega)
    have h2 : nI j < nI nl := nI_lt hj (by omega)
    refine br_f h1 (br_f (nI_ge hj (by omega)) (br_f (by decide) (la_xv hok (fun hv => br_f (by decide) ?_) (fun hv => br_t rfl ?_))))
    · have hfin : ∀ b : Nat, b < 2 → i_Rel (k + 4) (nI ni, nI nl, nI ng, bd, 0, tl, gl, gr, upd ln j v2, upd li j (nI b), ti, ts, ds) (nI ni, nI nl, nI ng, bd, 0, tl', gl, gr, upd ln j v2, upd li j (nI b), vs, bi, tx, tz) := fun b hb => ⟨ni, nl, ng, bd, 0, tl, tl', _, _, _, _, _, _, _, _, _, _, _, rfl, rfl, la_latch hok hv hb, la_n02⟩
      by_cases e0 : v3 = 0
      · refine br_t e0 ⟨vp_in_nI (by omega) (by omega), nm_r (e' := upd ln j v2) (by rw [hc]) ⟨vp_in_nI (by omega) (by omega), nm_r (e' := upd li j (nI 0)) (by rw [hc, e0]; rfl) ?_⟩⟩
        exact br_f h1 (br_t h2 (la_yv hok (fun _ => br_f (by decide) (br_t e0 ⟨vp_in_nI (by omega) (by omega), nm_r (e' := upd ln j v2) (by rw [hc]) ⟨vp_in_nI (by omega) (by omega), nm_r (e' := upd li j (nI 0)) (by rw [hc, e0]; rfl) ⟨rfl, hfin 0 (by omega)⟩⟩⟩)) (fun h => absurd hv h)))
      · by_cases e1 : v3 = 1
        · refine br_f e0 (br_t e1 ⟨vp_in_nI (by omega) (by omega), nm_r (e' := upd ln j v2) (by rw [hc]) ⟨vp_in_nI (by omega) (by omega), nm_r (e' := upd li j (nI 1)) (by rw [hc, e1]; rfl) ?_⟩⟩)
          exact br_f h1 (br_t h2 (la_yv hok (fun _ => br_f (by decide) (br_f e0 (br_t e1 ⟨vp_in_nI (by omega) (by omega), nm_r (e' := upd ln j v2) (by rw [hc]) ⟨vp_in_nI (by omega) (by omega), nm_r (e' := upd li j (nI 1)) (by rw [hc, e1]; rfl) ⟨rfl, hfin 1 (by omega)⟩⟩⟩))) (fun h => absurd hv h)))
        · exact br_f e0 (br_f e1 (br_f h1 (br_t h2 (la_yv hok (fun _ => br_f (by decide) (br_f e0 (br_f e1 ⟨rfl, I'⟩))) (fun h => absurd hv h)))))
    · exact br_f h1 (br_t h2 (la_yv hok (fun h => absurd h hv) (fun _ => br_t rfl ⟨rfl, I'⟩)))
theorem i_vc_setBad {k : Nat} {u : SX} {v : SY} (I : i_Rel k u v) (hk : k + 4 ≤ 2050) (v1 : Int32) : wpX_setBad (fun r u' => wpY_setBad (fun r' v' => r' = r ∧ i_Rel (k + 4) u' v') v v1) u v1 := by
  have I' := I
  obtain ⟨ni, nl, ng, bd, rs, tl, tl', gl, gr, ln, li, ti, ts, ds, vs, bi, tx, tz, rfl, rfl, hok, ht⟩ := I
  unfold wpX_setBad wpY_setBad
  refine la_xv hok (fun hv => br_f (by decide) (la_yv hok (fun _ => br_f (by decide) ⟨rfl, ?_⟩) (fun h => absurd hv h))) (fun hv => br_t rfl (la_yv hok (fun h => absurd h hv) (fun _ => br_t rfl ⟨rfl, I'⟩)))
  exact ⟨ni, nl, ng, v1, 0, tl, tl', _, _, _, _, _, _, _, _, _, _, _, rfl, rfl, la_bad hok hv, la_n02⟩
theorem i_vc_check {k : Nat} {u : SX} {v : SY} (I : i_Rel k u v) (hk : k + 4 ≤ 2050) : wpX_check (fun r u' => wpY_check (fun r' v' => r' = r ∧ i_Rel (k + 4) u' v') v) u := by
  obtain ⟨ni, nl, ng, bd, rs, tl, tl', gl, gr, ln, li, ti, ts, ds, vs, bi, tx, tz, rfl, rfl, hok, ht⟩ := I
  have b1 := ib_pow_le hok.2.2.1
  refine lx_check hok (fun hn ds2 => ly_check hok (fun _ vs2 bi2 => ⟨rfl, ?_⟩) (fun d hd hL => absurd hL.1 (hn d hd))) (fun d hd hL ti2 ts2 ds2 hT => ly_check hok (fun hn => absurd hL.1 (hn d hd)) (fun d2 hd2 hL2 vs2 bi2 tx2 tz2 hT2 => ⟨rfl, ?_⟩))
  · exact ⟨ni, nl, ng, bd, 1, tl, tl', _, _, _, _, _, _, _, _, _, _, _, rfl, rfl, hok, la_n12⟩
  · have e := ck_uniq hL2 hL
    subst e
    exact ⟨ni, nl, ng, bd, 2, _, _, _, _, _, _, _, _, _, _, _, _, _, rfl, rfl, hok, fun _ => ⟨d2, by omega, rfl, rfl, fun t ht2 => ⟨(hT t ht2).1.trans (hT2 t ht2).1.symm, (hT t ht2).2.trans (hT2 t ht2).2.symm⟩⟩⟩
theorem i_vc_getResult {k : Nat} {u : SX} {v : SY} (I : i_Rel k u v) (hk : k + 4 ≤ 2050) : wpX_getResult (fun r => wpY_getResult (fun r' => r' = r ∧ i_Rel (k + 4) u v) v) u := by
  have I' := I
  obtain ⟨ni, nl, ng, bd, rs, tl, tl', gl, gr, ln, li, ti, ts, ds, vs, bi, tx, tz, rfl, rfl, hok, ht⟩ := I
  exact ⟨rfl, I'⟩
theorem i_vc_getTraceLength {k : Nat} {u : SX} {v : SY} (I : i_Rel k u v) (hk : k + 4 ≤ 2050) : wpX_getTraceLength (fun r => wpY_getTraceLength (fun r' => r' = r ∧ i_Rel (k + 4) u v) v) u := by
  have I' := I
  obtain ⟨ni, nl, ng, bd, rs, tl, tl', gl, gr, ln, li, ti, ts, ds, vs, bi, tx, tz, rfl, rfl, hok, ht⟩ := I
  by_cases h2 : rs = 2
  · obtain ⟨d, hd, e1, e2, hT⟩ := ht h2
    exact br_t h2 (br_t h2 ⟨e2.trans e1.symm, I'⟩)
  · exact br_f h2 (br_f h2 ⟨rfl, I'⟩)
theorem i_vc_getTraceInputs {k : Nat} {u : SX} {v : SY} (I : i_Rel k u v) (hk : k + 4 ≤ 2050) (v1 : Int32) : wpX_getTraceInputs (fun r => wpY_getTraceInputs (fun r' => r' = r ∧ i_Rel (k + 4) u v) v v1) u v1 := by
  have I' := I
  obtain ⟨ni, nl, ng, bd, rs, tl, tl', gl, gr, ln, li, ti, ts, ds, vs, bi, tx, tz, rfl, rfl, hok, ht⟩ := I
  unfold wpX_getTraceInputs
  by_cases h2 : rs = 2
  · obtain ⟨d, hd, rfl, rfl, hT⟩ := ht h2
    by_cases h0 : v1 < 0
    · exact br_t h2 (br_t h0 (br_t rfl (br_t h2 (br_t h0 ⟨rfl, I'⟩))))
    · obtain ⟨j, hj, rfl⟩ := nI_of h0
      have hc : (nI j).toNatClampNeg = j := nI_clamp hj
      by_cases hl : d < j
      · exact br_t h2 (br_f h0 (br_t (nI_lt hl hj) (br_t rfl (br_t h2 (br_f h0 (br_t (nI_lt hl hj) ⟨rfl, I'⟩))))))
      · have h3 : ¬ nI d < nI j := nI_nlt (by omega) (by omega)
        exact br_t h2 (br_f h0 (br_f h3 (br_f (by decide) ⟨vp_in_nI (by omega) (by omega), br_t h2 (br_f h0 (br_f h3 (br_t (nI_lt (b := 16) (by omega) (by omega)) ⟨vp_in_nI (by omega) (by omega), by rw [hc]; exact (hT j (by omega)).1.symm, I'⟩)))⟩)))
  · exact br_f h2 (br_t rfl (br_f h2 ⟨rfl, I'⟩))
theorem i_vc_getTraceState {k : Nat} {u : SX} {v : SY} (I : i_Rel k u v) (hk : k + 4 ≤ 2050) (v1 : Int32) : wpX_getTraceState (fun r => wpY_getTraceState (fun r' => r' = r ∧ i_Rel (k + 4) u v) v v1) u v1 := by
  have I' := I
  obtain ⟨ni, nl, ng, bd, rs, tl, tl', gl, gr, ln, li, ti, ts, ds, vs, bi, tx, tz, rfl, rfl, hok, ht⟩ := I
  unfold wpX_getTraceState
  by_cases h2 : rs = 2
  · obtain ⟨d, hd, rfl, rfl, hT⟩ := ht h2
    by_cases h0 : v1 < 0
    · exact br_t h2 (br_t h0 (br_t rfl (br_t h2 (br_t h0 ⟨rfl, I'⟩))))
    · obtain ⟨j, hj, rfl⟩ := nI_of h0
      have hc : (nI j).toNatClampNeg = j := nI_clamp hj
      by_cases hl : d < j
      · exact br_t h2 (br_f h0 (br_t (nI_lt hl hj) (br_t rfl (br_t h2 (br_f h0 (br_t (nI_lt hl hj) ⟨rfl, I'⟩))))))
      · have h3 : ¬ nI d < nI j := nI_nlt (by omega) (by omega)
        exact br_t h2 (br_f h0 (br_f h3 (br_f (by decide) ⟨vp_in_nI (by omega) (by omega), br_t h2 (br_f h0 (br_f h3 (br_t (nI_lt (b := 16) (by omega) (by omega)) ⟨vp_in_nI (by omega) (by omega), by rw [hc]; exact (hT j (by omega)).2.symm, I'⟩)))⟩)))
  · exact br_f h2 (br_t rfl (br_f h2 ⟨rfl, I'⟩))
theorem i_vc_evalLit {k : Nat} {u : SX} {v : SY} (I : i_Rel k u v) (hk : k + 4 ≤ 2050) (v1 : Int32) (v2 : Int32) (v3 : Int32) : wpX_evalLit (fun r => wpY_evalLit (fun r' v' => r' = r ∧ i_Rel (k + 4) u v') v v1 v2 v3) u v1 v2 v3 := by
  have I' := I
  obtain ⟨ni, nl, ng, bd, rs, tl, tl', gl, gr, ln, li, ti, ts, ds, vs, bi, tx, tz, rfl, rfl, hok, ht⟩ := I
  have hok2 := hok
  obtain ⟨hni, hl1, hl4, hng, _⟩ := hok2
  have es := pk_and v2 nl (ib_mask nl (by omega))
  have ex := pk_and v3 ni (ib_mask ni (by omega))
  have hs : v2.toBitVec.toNat % 2 ^ nl < 2 ^ nl := Nat.mod_lt _ (Nat.two_pow_pos _)
  have hx : v3.toBitVec.toNat % 2 ^ ni < 2 ^ ni := Nat.mod_lt _ (Nat.two_pow_pos _)
  unfold wpX_evalLit
  refine la_xv hok (fun hv => br_f (by decide) ?_) (fun hv => br_t rfl ?_)
  · obtain ⟨l, el, hl⟩ := hv
    refine lx_vv hok hs hx es ex (lx_lv (l := l) (lx_V31 hok hs hx) el (by omega) ?_)
    unfold wpY_evalLit
    refine la_yv hok (fun _ => br_f (by decide) (nm_r es (nm_r ex (ly_ev hok hs hx (fun vs2 hvs => ly_lv (l := l) hvs el hl (by omega) ⟨rfl, ?_⟩))))) (fun h => absurd ⟨l, el, hl⟩ h)
    exact ⟨ni, nl, ng, bd, rs, tl, tl', _, _, _, _, _, _, _, _, _, _, _, rfl, rfl, hok, ht⟩
  · unfold wpY_evalLit
    exact la_yv hok (fun h => absurd h hv) (fun _ => br_t rfl ⟨rfl, I'⟩)
theorem i_vc_getGateCount {k : Nat} {u : SX} {v : SY} (I : i_Rel k u v) (hk : k + 4 ≤ 2050) : wpX_getGateCount (fun r => wpY_getGateCount (fun r' => r' = r ∧ i_Rel (k + 4) u v) v) u := by
  have I' := I
  obtain ⟨ni, nl, ng, bd, rs, tl, tl', gl, gr, ln, li, ti, ts, ds, vs, bi, tx, tz, rfl, rfl, hok, ht⟩ := I
  exact ⟨rfl, I'⟩
theorem i_vc_getInputCount {k : Nat} {u : SX} {v : SY} (I : i_Rel k u v) (hk : k + 4 ≤ 2050) : wpX_getInputCount (fun r => wpY_getInputCount (fun r' => r' = r ∧ i_Rel (k + 4) u v) v) u := by
  have I' := I
  obtain ⟨ni, nl, ng, bd, rs, tl, tl', gl, gr, ln, li, ti, ts, ds, vs, bi, tx, tz, rfl, rfl, hok, ht⟩ := I
  exact ⟨rfl, I'⟩
theorem i_vc_getLatchCount {k : Nat} {u : SX} {v : SY} (I : i_Rel k u v) (hk : k + 4 ≤ 2050) : wpX_getLatchCount (fun r => wpY_getLatchCount (fun r' => r' = r ∧ i_Rel (k + 4) u v) v) u := by
  have I' := I
  obtain ⟨ni, nl, ng, bd, rs, tl, tl', gl, gr, ln, li, ti, ts, ds, vs, bi, tx, tz, rfl, rfl, hok, ht⟩ := I
  exact ⟨rfl, I'⟩
theorem i_vc_getLatchNext {k : Nat} {u : SX} {v : SY} (I : i_Rel k u v) (hk : k + 4 ≤ 2050) (v1 : Int32) : wpX_getLatchNext (fun r => wpY_getLatchNext (fun r' => r' = r ∧ i_Rel (k + 4) u v) v v1) u v1 := by
  have I' := I
  obtain ⟨ni, nl, ng, bd, rs, tl, tl', gl, gr, ln, li, ti, ts, ds, vs, bi, tx, tz, rfl, rfl, hok, ht⟩ := I
  have hl4 := hok.2.2.1
  unfold wpX_getLatchNext
  rcases pk_ix v1 (n := nl) (by omega) with h0 | h0 | ⟨j, hj, rfl⟩
  · exact br_t h0 (br_t rfl (br_t h0 ⟨rfl, I'⟩))
  · have h1 : ¬ v1 < 0 := fun h => absurd (Int32.lt_of_le_of_lt h0 h) (nI_pos (by omega))
    exact br_f h1 (br_t h0 (br_t rfl (br_f h1 (br_f (Int32.not_lt.mpr h0) ⟨rfl, I'⟩))))
  · have h1 : ¬ nI j < 0 := nI_pos (by omega)
    have hi : vp_in (nI j) 4 := vp_in_nI (by omega) (by omega)
    exact br_f h1 (br_f (nI_ge hj (by omega)) (br_f (by decide) ⟨hi, br_f h1 (br_t (nI_lt hj (by omega)) ⟨hi, rfl, I'⟩)⟩))
theorem i_vc_getLatchInit {k : Nat} {u : SX} {v : SY} (I : i_Rel k u v) (hk : k + 4 ≤ 2050) (v1 : Int32) : wpX_getLatchInit (fun r => wpY_getLatchInit (fun r' => r' = r ∧ i_Rel (k + 4) u v) v v1) u v1 := by
  have I' := I
  obtain ⟨ni, nl, ng, bd, rs, tl, tl', gl, gr, ln, li, ti, ts, ds, vs, bi, tx, tz, rfl, rfl, hok, ht⟩ := I
  have hl4 := hok.2.2.1
  unfold wpX_getLatchInit
  rcases pk_ix v1 (n := nl) (by omega) with h0 | h0 | ⟨j, hj, rfl⟩
  · exact br_t h0 (br_t rfl (br_t h0 ⟨rfl, I'⟩))
  · have h1 : ¬ v1 < 0 := fun h => absurd (Int32.lt_of_le_of_lt h0 h) (nI_pos (by omega))
    exact br_f h1 (br_t h0 (br_t rfl (br_f h1 (br_f (Int32.not_lt.mpr h0) ⟨rfl, I'⟩))))
  · have h1 : ¬ nI j < 0 := nI_pos (by omega)
    have hi : vp_in (nI j) 4 := vp_in_nI (by omega) (by omega)
    exact br_f h1 (br_f (nI_ge hj (by omega)) (br_f (by decide) ⟨hi, br_f h1 (br_t (nI_lt hj (by omega)) ⟨hi, rfl, I'⟩)⟩))
theorem i_vc_getBadLit {k : Nat} {u : SX} {v : SY} (I : i_Rel k u v) (hk : k + 4 ≤ 2050) : wpX_getBadLit (fun r => wpY_getBadLit (fun r' => r' = r ∧ i_Rel (k + 4) u v) v) u := by
  have I' := I
  obtain ⟨ni, nl, ng, bd, rs, tl, tl', gl, gr, ln, li, ti, ts, ds, vs, bi, tx, tz, rfl, rfl, hok, ht⟩ := I
  exact ⟨rfl, I'⟩
