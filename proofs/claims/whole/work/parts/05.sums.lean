theorem pm_sm {v : Nat} (hv : v < 40) {th vl w : Nat → Int32} (hQ : pm_Q th vl w) (x y c : Int32) (pX pY : Nat → Int32) : ∀ (d j : Nat) (s : Int32), j + d = 32 → ∃ r : Int32, (∀ post : Int32 → Prop, post r → wX_sum_16 post (nI v) x y c th vl pX (d + 1) s (nI j)) ∧ (∀ post : Int32 → Prop, post r → wY_sum_16 post (nI v) x y c pY th w (d + 1) s (nI j)) := by
  intro d
  induction d with
  | zero =>
    intro j s hj
    have h : (32 : Int32) ≤ nI j := nI_le (a := 32) (by omega) (by omega)
    exact ⟨s, fun post hp => br_t h hp, fun post hp => br_t h hp⟩
  | succ d ih =>
    intro j s hj
    have h : ¬ (32 : Int32) ≤ nI j := nI_ge (b := 32) (by omega) (by decide)
    have hj2 : j < 32 := by omega
    by_cases q : nI j < x
    · obtain ⟨r, hX, hY⟩ := ih (j + 1) s (by omega)
      exact ⟨r, fun post hp => br_f h (br_t q (nm_r (nI_1 j) (hX post hp))), fun post hp => br_f h (br_t q (nm_r (nI_1 j) (hY post hp)))⟩
    by_cases p : y < nI j
    · obtain ⟨r, hX, hY⟩ := ih (j + 1) s (by omega)
      exact ⟨r, fun post hp => br_f h (br_f q (br_t p (nm_r (nI_1 j) (hX post hp)))), fun post hp => br_f h (br_f q (br_t p (nm_r (nI_1 j) (hY post hp))))⟩
    rcases hQ (32 * v + j) with ⟨z, e⟩ | ⟨z, e⟩
    · obtain ⟨r, hX, hY⟩ := ih (j + 1) s (by omega)
      exact ⟨r, fun post hp => br_f h (br_f q (br_f p (pm_cell ⟨pm_in hv hj2, nm_r (by rw [pm_cl hv hj2, e, Int32.add_zero]) (nm_r (nI_1 j) (hX post hp))⟩))), fun post hp => br_f h (br_f q (br_f p ⟨pm_yin hv hj2, br_t (by rw [pm_ycl hv hj2]; exact z) (nm_r (nI_1 j) (hY post hp))⟩))⟩
    · obtain ⟨r, hX, hY⟩ := ih (j + 1) (s + w (32 * v + j)) (by omega)
      exact ⟨r, fun post hp => br_f h (br_f q (br_f p (pm_cell ⟨pm_in hv hj2, nm_r (by rw [pm_cl hv hj2, e]) (nm_r (nI_1 j) (hX post hp))⟩))), fun post hp => br_f h (br_f q (br_f p ⟨pm_yin hv hj2, br_f (by rw [pm_ycl hv hj2, z]; exact pm_10) ⟨pm_yin hv hj2, nm_r (by rw [pm_ycl hv hj2]) (nm_r (nI_1 j) (hY post hp))⟩⟩))⟩
theorem i_vc_sum {k : Nat} {u : SX} {v : SY} (I : i_Rel k u v) (hk : k + 5 ≤ 2560) (v1 : Int32) (v2 : Int32) (v3 : Int32) : wpX_sum (fun r => wpY_sum (fun r' => r' = r ∧ i_Rel (k + 5) u v) v v1 v2 v3) u v1 v2 v3 := by
  obtain ⟨C, th, vl, w, pX, pY, P, h0, hC, rfl, rfl, hQ, hP⟩ := I
  have R := pm_rel (k := k + 5) h0 hC hQ hP
  unfold wpX_sum
  rcases pm_ver v1 hC with hb | ⟨j, hj, rfl⟩
  · refine pm_nX hb (br_t rfl ?_)
    unfold wpY_sum
    exact pm_nY hb (br_f pm_10 ⟨rfl, R⟩)
  obtain ⟨r, hX, hY⟩ := pm_sm (show j < 40 by omega) hQ v2 v3 (nI C) pX pY 32 0 0 rfl
  refine pm_vX hC hj (br_f pm_10 ⟨_, hX _ ?_⟩)
  unfold wpY_sum
  exact pm_vY hC hj (br_t rfl ⟨_, hY _ ⟨rfl, R⟩⟩)
theorem pm_ag {a b q : Nat} (ha : a < 40) (hb : b < 40) (hq : q < 32) {th vl w : Nat → Int32} (hQ : pm_Q th vl w) (c : Int32) (pX pY : Nat → Int32) : ∃ r : Int32, (∀ post : Int32 → Prop, post r → wpX_agree post (c, th, vl, pX) (nI a) (nI b) (nI q)) ∧ (∀ post : Int32 → Prop, post r → wpY_agree post (c, pY, th, w) (nI a) (nI b) (nI q)) := by
  have iX := pm_in ha hq
  have jX := pm_in hb hq
  have iY := pm_yin ha hq
  have jY := pm_yin hb hq
  have cX := pm_cl ha hq
  have dX := pm_cl hb hq
  have cY := pm_ycl ha hq
  have dY := pm_ycl hb hq
  unfold wpX_agree wpY_agree
  by_cases z : th (32 * a + q) = th (32 * b + q)
  · rcases hQ (32 * a + q) with ⟨z1, e1⟩ | ⟨z1, e1⟩
    · have e2 : vl (32 * b + q) = 0 := by
        rcases hQ (32 * b + q) with ⟨_, e⟩ | ⟨z2, _⟩
        · exact e
        · rw [z1, z2] at z; exact absurd z (by decide)
      exact ⟨1, fun post hp => pm_cell (pm_cell ⟨iX, jX, br_t (by rw [cX, dX]; exact z) ⟨iX, jX, br_t (by rw [cX, dX, e1, e2]) hp⟩⟩), fun post hp => ⟨iY, jY, br_t (by rw [cY, dY]; exact z) ⟨iY, br_t (by rw [cY]; exact z1) hp⟩⟩⟩
    · have e2 : vl (32 * b + q) = w (32 * b + q) := by
        rcases hQ (32 * b + q) with ⟨z2, _⟩ | ⟨_, e⟩
        · rw [z1, z2] at z; exact absurd z (by decide)
        · exact e
      have z3 : ¬ th (32 * nI a + nI q).toNatClampNeg = 0 := by rw [cY, z1]; exact pm_10
      by_cases y : w (32 * a + q) = w (32 * b + q)
      · exact ⟨1, fun post hp => pm_cell (pm_cell ⟨iX, jX, br_t (by rw [cX, dX]; exact z) ⟨iX, jX, br_t (by rw [cX, dX, e1, e2]; exact y) hp⟩⟩), fun post hp => ⟨iY, jY, br_t (by rw [cY, dY]; exact z) ⟨iY, br_f z3 ⟨iY, jY, br_t (by rw [cY, dY]; exact y) hp⟩⟩⟩⟩
      · exact ⟨0, fun post hp => pm_cell (pm_cell ⟨iX, jX, br_t (by rw [cX, dX]; exact z) ⟨iX, jX, br_f (by rw [cX, dX, e1, e2]; exact y) hp⟩⟩), fun post hp => ⟨iY, jY, br_t (by rw [cY, dY]; exact z) ⟨iY, br_f z3 ⟨iY, jY, br_f (by rw [cY, dY]; exact y) hp⟩⟩⟩⟩
  · exact ⟨0, fun post hp => pm_cell (pm_cell ⟨iX, jX, br_f (by rw [cX, dX]; exact z) hp⟩), fun post hp => ⟨iY, jY, br_f (by rw [cY, dY]; exact z) hp⟩⟩
theorem pm_df {a b : Nat} (ha : a < 40) (hb : b < 40) {th vl w : Nat → Int32} (hQ : pm_Q th vl w) (c : Int32) (pX pY : Nat → Int32) : ∀ (d j : Nat) (s : Int32), j + d = 32 → ∃ r : Int32, (∀ post : Int32 → Prop, post r → wX_differing_23 post (nI a) (nI b) c th vl pX (d + 1) s (nI j)) ∧ (∀ post : Int32 → Prop, post r → wY_differing_23 post (nI a) (nI b) c pY th w (d + 1) s (nI j)) := by
  intro d
  induction d with
  | zero =>
    intro j s hj
    have h : (32 : Int32) ≤ nI j := nI_le (a := 32) (by omega) (by omega)
    exact ⟨s, fun post hp => br_t h hp, fun post hp => br_t h hp⟩
  | succ d ih =>
    intro j s hj
    have h : ¬ (32 : Int32) ≤ nI j := nI_ge (b := 32) (by omega) (by decide)
    have hj2 : j < 32 := by omega
    obtain ⟨r, hX, hY⟩ := pm_ag ha hb hj2 hQ c pX pY
    by_cases z : r = 0
    · obtain ⟨r', hX', hY'⟩ := ih (j + 1) (s + 1) (by omega)
      exact ⟨r', fun post hp => br_f h (hX _ (br_t z (nm_e (nm_r (nI_1 j) (hX' post hp))))), fun post hp => br_f h (hY _ (br_t z (nm_e (nm_r (nI_1 j) (hY' post hp)))))⟩
    · obtain ⟨r', hX', hY'⟩ := ih (j + 1) s (by omega)
      exact ⟨r', fun post hp => br_f h (hX _ (br_f z (nm_r (nI_1 j) (hX' post hp)))), fun post hp => br_f h (hY _ (br_f z (nm_r (nI_1 j) (hY' post hp))))⟩
theorem i_vc_differing {k : Nat} {u : SX} {v : SY} (I : i_Rel k u v) (hk : k + 5 ≤ 2560) (v1 : Int32) (v2 : Int32) : wpX_differing (fun r => wpY_differing (fun r' => r' = r ∧ i_Rel (k + 5) u v) v v1 v2) u v1 v2 := by
  obtain ⟨C, th, vl, w, pX, pY, P, h0, hC, rfl, rfl, hQ, hP⟩ := I
  have R := pm_rel (k := k + 5) h0 hC hQ hP
  unfold wpX_differing
  rcases pm_ver v1 hC with hb | ⟨j, hj, rfl⟩
  · refine pm_nX hb (br_t rfl ?_)
    unfold wpY_differing
    exact pm_nY hb (br_f pm_10 ⟨rfl, R⟩)
  rcases pm_ver v2 hC with hb | ⟨m, hm, rfl⟩
  · refine pm_vX hC hj (br_f pm_10 (pm_nX hb (br_t rfl ?_)))
    unfold wpY_differing
    exact pm_vY hC hj (br_t rfl (pm_nY hb (br_f pm_10 ⟨rfl, R⟩)))
  obtain ⟨r, hX, hY⟩ := pm_df (show j < 40 by omega) (show m < 40 by omega) hQ (nI C) pX pY 32 0 0 rfl
  refine pm_vX hC hj (br_f pm_10 (pm_vX hC hm (br_f pm_10 ⟨_, hX _ ?_⟩)))
  unfold wpY_differing
  exact pm_vY hC hj (br_t rfl (pm_vY hC hm (br_t rfl ⟨_, hY _ ⟨rfl, R⟩⟩)))
theorem pm_sp {C q : Nat} (hC : C ≤ 40) (hq : q < 32) (th vl w pX pY : Nat → Int32) : ∀ (d j : Nat) (s : Int32), j + d = C → ∃ r : Int32, (∀ post : Int32 → Prop, post r → wX_spread_13 post (nI q) (nI C) th vl pX (d + 1) s (nI j)) ∧ (∀ post : Int32 → Prop, post r → wY_spread_14 post (nI q) (nI C) pY th w (d + 1) s (nI j)) := by
  intro d
  induction d with
  | zero =>
    intro j s hj
    have h : nI C ≤ nI j := nI_le (by omega) (by omega)
    exact ⟨s, fun post hp => br_t h hp, fun post hp => br_t h hp⟩
  | succ d ih =>
    intro j s hj
    have h : ¬ nI C ≤ nI j := nI_ge (by omega) (by omega)
    have hj2 : j < 40 := by omega
    have h40 : ¬ (40 : Int32) ≤ nI j := nI_ge (b := 40) hj2 (by decide)
    by_cases z : th (32 * j + q) = 0
    · obtain ⟨r, hX, hY⟩ := ih (j + 1) s (by omega)
      exact ⟨r, fun post hp => br_f h (pm_cell ⟨pm_in hj2 hq, br_t (by rw [pm_cl hj2 hq]; exact z) (nm_r (nI_1 j) (hX post hp))⟩), fun post hp => br_f h (br_f h40 ⟨pm_yin hj2 hq, br_t (by rw [pm_ycl hj2 hq]; exact z) (nm_r (nI_1 j) (hY post hp))⟩)⟩
    · obtain ⟨r, hX, hY⟩ := ih (j + 1) (s + 1) (by omega)
      exact ⟨r, fun post hp => br_f h (pm_cell ⟨pm_in hj2 hq, br_f (by rw [pm_cl hj2 hq]; exact z) (nm_e (nm_r (nI_1 j) (hX post hp)))⟩), fun post hp => br_f h (br_f h40 ⟨pm_yin hj2 hq, br_f (by rw [pm_ycl hj2 hq]; exact z) (nm_e (nm_r (nI_1 j) (hY post hp)))⟩)⟩
theorem i_vc_spread {k : Nat} {u : SX} {v : SY} (I : i_Rel k u v) (hk : k + 5 ≤ 2560) (v1 : Int32) : wpX_spread (fun r => wpY_spread (fun r' => r' = r ∧ i_Rel (k + 5) u v) v v1) u v1 := by
  obtain ⟨C, th, vl, w, pX, pY, P, h0, hC, rfl, rfl, hQ, hP⟩ := I
  have R := pm_rel (k := k + 5) h0 hC hQ hP
  unfold wpX_spread
  rcases pm_key v1 with hb | ⟨a, ha, rfl⟩
  · refine pm_nkX hb (br_t rfl ?_)
    unfold wpY_spread
    exact pm_nkY hb (br_f pm_10 ⟨rfl, R⟩)
  obtain ⟨r, hX, hY⟩ := pm_sp hC ha th vl w pX pY C 0 0 (by omega)
  refine pm_kX ha (br_f pm_10 ⟨_, hX _ ?_⟩)
  unfold wpY_spread
  exact pm_kY ha (br_t rfl ⟨_, hY _ ⟨rfl, R⟩⟩)
theorem pm_ch {C q : Nat} (hC : C ≤ 40) (hq : q < 32) {th vl w pX pY : Nat → Int32} {P : Nat → Nat} (hQ : pm_Q th vl w) (hP : pm_P C P pX pY) : ∀ (d j : Nat) (s : Int32), 0 < j → j + d = C → ∃ r : Int32, (∀ post : Int32 → Prop, post r → wX_changes_13 post (nI q) (nI C) th vl pX (d + 1) s (nI j)) ∧ (∀ post : Int32 → Prop, post r → wY_changes_14 post (nI q) (nI C) pY th w (d + 1) s (nI j)) := by
  intro d
  induction d with
  | zero =>
    intro j s _ hj
    have h : nI C ≤ nI j := nI_le (by omega) (by omega)
    exact ⟨s, fun post hp => br_t h hp, fun post hp => br_t h hp⟩
  | succ d ih =>
    intro j s j0 hj
    have h : ¬ nI C ≤ nI j := nI_ge (by omega) (by omega)
    have hj2 : j < 40 := by omega
    have h40 : ¬ (40 : Int32) ≤ nI j := nI_ge (b := 40) hj2 (by decide)
    have hi : vp_in (nI j) 40 := vp_in_nI hj2 (by decide)
    obtain ⟨p1, p2, p3⟩ := hP j j0 (by omega)
    have q2 : pX (nI j).toNatClampNeg = nI (P j) := by rw [nI_clamp (by omega)]; exact p2
    have q3 : pY (nI j).toNatClampNeg = nI (P j) := by rw [nI_clamp (by omega)]; exact p3
    obtain ⟨r, hX, hY⟩ := pm_ag hj2 (show P j < 40 by omega) hq hQ (nI C) pX pY
    rw [← q2] at hX
    rw [← q3] at hY
    by_cases z : r = 0
    · obtain ⟨r', hX', hY'⟩ := ih (j + 1) (s + 1) (by omega) (by omega)
      exact ⟨r', fun post hp => br_f h ⟨hi, hX _ (br_t z (nm_e (nm_r (nI_1 j) (hX' post hp))))⟩, fun post hp => br_f h (br_f h40 ⟨hi, hY _ (br_t z (nm_e (nm_r (nI_1 j) (hY' post hp))))⟩)⟩
    · obtain ⟨r', hX', hY'⟩ := ih (j + 1) s (by omega) (by omega)
      exact ⟨r', fun post hp => br_f h ⟨hi, hX _ (br_f z (nm_r (nI_1 j) (hX' post hp)))⟩, fun post hp => br_f h (br_f h40 ⟨hi, hY _ (br_f z (nm_r (nI_1 j) (hY' post hp)))⟩)⟩
theorem i_vc_changes {k : Nat} {u : SX} {v : SY} (I : i_Rel k u v) (hk : k + 5 ≤ 2560) (v1 : Int32) : wpX_changes (fun r => wpY_changes (fun r' => r' = r ∧ i_Rel (k + 5) u v) v v1) u v1 := by
  obtain ⟨C, th, vl, w, pX, pY, P, h0, hC, rfl, rfl, hQ, hP⟩ := I
  have R := pm_rel (k := k + 5) h0 hC hQ hP
  unfold wpX_changes
  rcases pm_key v1 with hb | ⟨a, ha, rfl⟩
  · refine pm_nkX hb (br_t rfl ?_)
    unfold wpY_changes
    exact pm_nkY hb (br_f pm_10 ⟨rfl, R⟩)
  obtain ⟨r, hX, hY⟩ := pm_ch hC ha hQ hP (C - 1) 1 0 (by decide) (by omega)
  refine pm_kX ha (br_f pm_10 ⟨_, hX _ ?_⟩)
  unfold wpY_changes
  exact pm_kY ha (br_t rfl ⟨_, hY _ ⟨rfl, R⟩⟩)
