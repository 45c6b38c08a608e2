theorem i_vc_versions {k : Nat} {u : SX} {v : SY} (I : i_Rel k u v) (hk : k + 5 ≤ 2560) : wpX_versions (fun r => wpY_versions (fun r' => r' = r ∧ i_Rel (k + 5) u v) v) u := by
  obtain ⟨C, th, vl, w, pX, pY, P, h0, hC, rfl, rfl, hQ, hP⟩ := I
  unfold wpX_versions wpY_versions
  exact ⟨rfl, pm_rel h0 hC hQ hP⟩
theorem i_vc_parent {k : Nat} {u : SX} {v : SY} (I : i_Rel k u v) (hk : k + 5 ≤ 2560) (v1 : Int32) : wpX_parent (fun r => wpY_parent (fun r' => r' = r ∧ i_Rel (k + 5) u v) v v1) u v1 := by
  obtain ⟨C, th, vl, w, pX, pY, P, h0, hC, rfl, rfl, hQ, hP⟩ := I
  have R := pm_rel (k := k + 5) h0 hC hQ hP
  unfold wpX_parent
  rcases pm_ver v1 hC with hb | ⟨j, hj, rfl⟩
  · refine pm_nX hb (br_t rfl ?_)
    unfold wpY_parent
    exact pm_nY hb (br_f pm_10 ⟨rfl, R⟩)
  by_cases z : j = 0
  · subst z
    refine pm_vX hC hj (br_f pm_10 (br_t rfl ?_))
    unfold wpY_parent
    exact pm_vY hC hj (br_t rfl (br_t rfl ⟨rfl, R⟩))
  · have hz : ¬ nI j = 0 := nI_ne0 (by omega) (by omega)
    have hi : vp_in (nI j) 40 := vp_in_nI (by omega) (by decide)
    obtain ⟨_, e1, e2⟩ := hP j (by omega) hj
    refine pm_vX hC hj (br_f pm_10 (br_f hz ⟨hi, ?_⟩))
    unfold wpY_parent
    refine pm_vY hC hj (br_t rfl (br_f hz ⟨hi, ?_, R⟩))
    rw [nI_clamp (by omega), e1, e2]
theorem i_vc_has {k : Nat} {u : SX} {v : SY} (I : i_Rel k u v) (hk : k + 5 ≤ 2560) (v1 : Int32) (v2 : Int32) : wpX_has (fun r => wpY_has (fun r' => r' = r ∧ i_Rel (k + 5) u v) v v1 v2) u v1 v2 := by
  obtain ⟨C, th, vl, w, pX, pY, P, h0, hC, rfl, rfl, hQ, hP⟩ := I
  have R := pm_rel (k := k + 5) h0 hC hQ hP
  unfold wpX_has
  rcases pm_ver v1 hC with hb | ⟨j, hj, rfl⟩
  · refine pm_nX hb (br_t rfl ?_)
    unfold wpY_has
    exact pm_nY hb (br_f pm_10 ⟨rfl, R⟩)
  rcases pm_key v2 with hb | ⟨a, ha, rfl⟩
  · refine pm_vX hC hj (br_f pm_10 (pm_nkX hb (br_t rfl ?_)))
    unfold wpY_has
    exact pm_vY hC hj (br_t rfl (pm_nkY hb (br_f pm_10 ⟨rfl, R⟩)))
  have hj2 : j < 40 := by omega
  by_cases z : th (32 * j + a) = 0
  · refine pm_vX hC hj (br_f pm_10 (pm_kX ha (br_f pm_10 (pm_cell ⟨pm_in hj2 ha, br_t (by rw [pm_cl hj2 ha]; exact z) ?_⟩))))
    unfold wpY_has
    exact pm_vY hC hj (br_t rfl (pm_kY ha (br_t rfl ⟨pm_yin hj2 ha, br_t (by rw [pm_ycl hj2 ha]; exact z) ⟨rfl, R⟩⟩)))
  · refine pm_vX hC hj (br_f pm_10 (pm_kX ha (br_f pm_10 (pm_cell ⟨pm_in hj2 ha, br_f (by rw [pm_cl hj2 ha]; exact z) ?_⟩))))
    unfold wpY_has
    exact pm_vY hC hj (br_t rfl (pm_kY ha (br_t rfl ⟨pm_yin hj2 ha, br_f (by rw [pm_ycl hj2 ha]; exact z) ⟨rfl, R⟩⟩)))
theorem i_vc_get {k : Nat} {u : SX} {v : SY} (I : i_Rel k u v) (hk : k + 5 ≤ 2560) (v1 : Int32) (v2 : Int32) : wpX_get (fun r => wpY_get (fun r' => r' = r ∧ i_Rel (k + 5) u v) v v1 v2) u v1 v2 := by
  obtain ⟨C, th, vl, w, pX, pY, P, h0, hC, rfl, rfl, hQ, hP⟩ := I
  have R := pm_rel (k := k + 5) h0 hC hQ hP
  unfold wpX_get
  rcases pm_ver v1 hC with hb | ⟨j, hj, rfl⟩
  · refine pm_nX hb (br_t rfl ?_)
    unfold wpY_get
    exact pm_nY hb (br_f pm_10 ⟨rfl, R⟩)
  rcases pm_key v2 with hb | ⟨a, ha, rfl⟩
  · refine pm_vX hC hj (br_f pm_10 (pm_nkX hb (br_t rfl ?_)))
    unfold wpY_get
    exact pm_vY hC hj (br_t rfl (pm_nkY hb (br_f pm_10 ⟨rfl, R⟩)))
  have hj2 : j < 40 := by omega
  refine pm_vX hC hj (br_f pm_10 (pm_kX ha (br_f pm_10 (pm_cell ⟨pm_in hj2 ha, ?_⟩))))
  unfold wpY_get
  rcases hQ (32 * j + a) with ⟨z, e⟩ | ⟨z, e⟩
  · refine pm_vY hC hj (br_t rfl (pm_kY ha (br_t rfl ⟨pm_yin hj2 ha, br_t (by rw [pm_ycl hj2 ha]; exact z) ⟨?_, R⟩⟩)))
    rw [pm_cl hj2 ha, e]
  · refine pm_vY hC hj (br_t rfl (pm_kY ha (br_t rfl ⟨pm_yin hj2 ha, br_f (by rw [pm_ycl hj2 ha, z]; exact pm_10) ⟨pm_yin hj2 ha, ?_, R⟩⟩)))
    rw [pm_cl hj2 ha, pm_ycl hj2 ha, e]
theorem pm_sz {v : Nat} (hv : v < 40) (c : Int32) (th vl w pX pY : Nat → Int32) : ∀ (d j : Nat) (s : Int32), j + d = 32 → ∃ r : Int32, (∀ post : Int32 → Prop, post r → wX_size_14 post (nI v) c th vl pX (d + 1) s (nI j)) ∧ (∀ post : Int32 → Prop, post r → wY_size_14 post (nI v) c pY th w (d + 1) s (nI j)) := by
  intro d
  induction d with
  | zero =>
    intro j s hj
    have h : (32 : Int32) ≤ nI j := nI_le (a := 32) (by omega) (by omega)
    exact ⟨s, fun post hp => br_t h hp, fun post hp => br_t h hp⟩
  | succ d ih =>
    intro j s hj
    have h : ¬ (32 : Int32) ≤ nI j := nI_ge (b := 32) (by omega) (by decide)
    have hj2 : j < 32 := by omega
    by_cases z : th (32 * v + j) = 0
    · obtain ⟨r, hX, hY⟩ := ih (j + 1) s (by omega)
      exact ⟨r, fun post hp => br_f h (pm_cell ⟨pm_in hv hj2, br_t (by rw [pm_cl hv hj2]; exact z) (nm_r (nI_1 j) (hX post hp))⟩), fun post hp => br_f h ⟨pm_yin hv hj2, br_t (by rw [pm_ycl hv hj2]; exact z) (nm_r (nI_1 j) (hY post hp))⟩⟩
    · obtain ⟨r, hX, hY⟩ := ih (j + 1) (s + 1) (by omega)
      exact ⟨r, fun post hp => br_f h (pm_cell ⟨pm_in hv hj2, br_f (by rw [pm_cl hv hj2]; exact z) (nm_e (nm_r (nI_1 j) (hX post hp)))⟩), fun post hp => br_f h ⟨pm_yin hv hj2, br_f (by rw [pm_ycl hv hj2]; exact z) (nm_e (nm_r (nI_1 j) (hY post hp)))⟩⟩
theorem i_vc_size {k : Nat} {u : SX} {v : SY} (I : i_Rel k u v) (hk : k + 5 ≤ 2560) (v1 : Int32) : wpX_size (fun r => wpY_size (fun r' => r' = r ∧ i_Rel (k + 5) u v) v v1) u v1 := by
  obtain ⟨C, th, vl, w, pX, pY, P, h0, hC, rfl, rfl, hQ, hP⟩ := I
  have R := pm_rel (k := k + 5) h0 hC hQ hP
  unfold wpX_size
  rcases pm_ver v1 hC with hb | ⟨j, hj, rfl⟩
  · refine pm_nX hb (br_t rfl ?_)
    unfold wpY_size
    exact pm_nY hb (br_f pm_10 ⟨rfl, R⟩)
  obtain ⟨r, hX, hY⟩ := pm_sz (show j < 40 by omega) (nI C) th vl w pX pY 32 0 0 rfl
  refine pm_vX hC hj (br_f pm_10 ⟨_, hX _ ?_⟩)
  unfold wpY_size
  exact pm_vY hC hj (br_t rfl ⟨_, hY _ ⟨rfl, R⟩⟩)
theorem pm_nx {v : Nat} (hv : v < 40) (x c : Int32) (th vl w pX pY : Nat → Int32) : ∀ (d j : Nat), j + d = 32 → ∃ r : Int32, (∀ post : Int32 → Prop, post r → wX_next_12 post (nI v) x c th vl pX (d + 1) (nI j)) ∧ (∀ post : Int32 → Prop, post r → wY_next_12 post (nI v) x c pY th w (d + 1) (nI j)) := by
  intro d
  induction d with
  | zero =>
    intro j hj
    have h : (32 : Int32) ≤ nI j := nI_le (a := 32) (by omega) (by omega)
    exact ⟨-2, fun post hp => br_t h hp, fun post hp => br_t h hp⟩
  | succ d ih =>
    intro j hj
    have h : ¬ (32 : Int32) ≤ nI j := nI_ge (b := 32) (by omega) (by decide)
    have hj2 : j < 32 := by omega
    obtain ⟨r, hX, hY⟩ := ih (j + 1) (by omega)
    by_cases q : nI j < x
    · exact ⟨r, fun post hp => br_f h (br_t q (nm_r (nI_1 j) (hX post hp))), fun post hp => br_f h (br_t q (nm_r (nI_1 j) (hY post hp)))⟩
    by_cases z : th (32 * v + j) = 0
    · exact ⟨r, fun post hp => br_f h (br_f q (pm_cell ⟨pm_in hv hj2, br_t (by rw [pm_cl hv hj2]; exact z) (nm_r (nI_1 j) (hX post hp))⟩)), fun post hp => br_f h (br_f q ⟨pm_yin hv hj2, br_t (by rw [pm_ycl hv hj2]; exact z) (nm_r (nI_1 j) (hY post hp))⟩)⟩
    · exact ⟨nI j, fun post hp => br_f h (br_f q (pm_cell ⟨pm_in hv hj2, br_f (by rw [pm_cl hv hj2]; exact z) hp⟩)), fun post hp => br_f h (br_f q ⟨pm_yin hv hj2, br_f (by rw [pm_ycl hv hj2]; exact z) hp⟩)⟩
theorem i_vc_next {k : Nat} {u : SX} {v : SY} (I : i_Rel k u v) (hk : k + 5 ≤ 2560) (v1 : Int32) (v2 : Int32) : wpX_next (fun r => wpY_next (fun r' => r' = r ∧ i_Rel (k + 5) u v) v v1 v2) u v1 v2 := by
  obtain ⟨C, th, vl, w, pX, pY, P, h0, hC, rfl, rfl, hQ, hP⟩ := I
  have R := pm_rel (k := k + 5) h0 hC hQ hP
  unfold wpX_next
  rcases pm_ver v1 hC with hb | ⟨j, hj, rfl⟩
  · refine pm_nX hb (br_t rfl ?_)
    unfold wpY_next
    exact pm_nY hb (br_f pm_10 ⟨rfl, R⟩)
  obtain ⟨r, hX, hY⟩ := pm_nx (show j < 40 by omega) v2 (nI C) th vl w pX pY 32 0 rfl
  refine pm_vX hC hj (br_f pm_10 ⟨_, hX _ ?_⟩)
  unfold wpY_next
  exact pm_vY hC hj (br_t rfl ⟨_, hY _ ⟨rfl, R⟩⟩)
/-- a counter that runs down to -1 -/
def pm_dn : Nat → Int32
  | 0 => -1
  | d + 1 => nI d
theorem pm_dn1 (d : Nat) : nI d + (-1) = pm_dn d := by
  cases d with
  | zero => decide
  | succ d => exact pk_m1 d
theorem pm_pv {v : Nat} (hv : v < 40) (x c : Int32) (th vl w pX pY : Nat → Int32) : ∀ (d : Nat), d ≤ 32 → ∃ r : Int32, (∀ post : Int32 → Prop, post r → wX_previous_13 post (nI v) x c th vl pX (d + 1) (pm_dn d)) ∧ (∀ post : Int32 → Prop, post r → wY_previous_13 post (nI v) x c pY th w (d + 1) (pm_dn d)) := by
  intro d
  induction d with
  | zero =>
    intro _
    have h : pm_dn 0 < 0 := by decide
    exact ⟨-2, fun post hp => br_t h hp, fun post hp => br_t h hp⟩
  | succ d ih =>
    intro hd
    have h : ¬ nI d < 0 := nI_pos (by omega)
    have hj2 : d < 32 := by omega
    obtain ⟨r, hX, hY⟩ := ih (by omega)
    show ∃ r : Int32, (∀ post : Int32 → Prop, post r → wX_previous_13 post (nI v) x c th vl pX (d + 1 + 1) (nI d)) ∧ (∀ post : Int32 → Prop, post r → wY_previous_13 post (nI v) x c pY th w (d + 1 + 1) (nI d))
    by_cases q : x < nI d
    · exact ⟨r, fun post hp => br_f h (br_t q (nm_r (pm_dn1 d) (hX post hp))), fun post hp => br_f h (br_t q (nm_r (pm_dn1 d) (hY post hp)))⟩
    by_cases z : th (32 * v + d) = 0
    · exact ⟨r, fun post hp => br_f h (br_f q (pm_cell ⟨pm_in hv hj2, br_t (by rw [pm_cl hv hj2]; exact z) (nm_r (pm_dn1 d) (hX post hp))⟩)), fun post hp => br_f h (br_f q ⟨pm_yin hv hj2, br_t (by rw [pm_ycl hv hj2]; exact z) (nm_r (pm_dn1 d) (hY post hp))⟩)⟩
    · exact ⟨nI d, fun post hp => br_f h (br_f q (pm_cell ⟨pm_in hv hj2, br_f (by rw [pm_cl hv hj2]; exact z) hp⟩)), fun post hp => br_f h (br_f q ⟨pm_yin hv hj2, br_f (by rw [pm_ycl hv hj2]; exact z) hp⟩)⟩
theorem i_vc_previous {k : Nat} {u : SX} {v : SY} (I : i_Rel k u v) (hk : k + 5 ≤ 2560) (v1 : Int32) (v2 : Int32) : wpX_previous (fun r => wpY_previous (fun r' => r' = r ∧ i_Rel (k + 5) u v) v v1 v2) u v1 v2 := by
  obtain ⟨C, th, vl, w, pX, pY, P, h0, hC, rfl, rfl, hQ, hP⟩ := I
  have R := pm_rel (k := k + 5) h0 hC hQ hP
  unfold wpX_previous
  rcases pm_ver v1 hC with hb | ⟨j, hj, rfl⟩
  · refine pm_nX hb (br_t rfl ?_)
    unfold wpY_previous
    exact pm_nY hb (br_f pm_10 ⟨rfl, R⟩)
  obtain ⟨r, hX, hY⟩ := pm_pv (show j < 40 by omega) v2 (nI C) th vl w pX pY 32 (by decide)
  refine pm_vX hC hj (br_f pm_10 ⟨_, hX _ ?_⟩)
  unfold wpY_previous
  exact pm_vY hC hj (br_t rfl ⟨_, hY _ ⟨rfl, R⟩⟩)
theorem pm_sl {v : Nat} (hv : v < 40) (x c : Int32) (th vl w pX pY : Nat → Int32) : ∀ (d j : Nat) (s : Int32), j + d = 32 → ∃ r : Int32, (∀ post : Int32 → Prop, post r → wX_select_15 post (nI v) x c th vl pX (d + 1) s (nI j)) ∧ (∀ post : Int32 → Prop, post r → wY_select_15 post (nI v) x c pY th w (d + 1) s (nI j)) := by
  intro d
  induction d with
  | zero =>
    intro j s hj
    have h : (32 : Int32) ≤ nI j := nI_le (a := 32) (by omega) (by omega)
    exact ⟨-2, fun post hp => br_t h hp, fun post hp => br_t h hp⟩
  | succ d ih =>
    intro j s hj
    have h : ¬ (32 : Int32) ≤ nI j := nI_ge (b := 32) (by omega) (by decide)
    have hj2 : j < 32 := by omega
    by_cases z : th (32 * v + j) = 0
    · obtain ⟨r, hX, hY⟩ := ih (j + 1) s (by omega)
      exact ⟨r, fun post hp => br_f h (pm_cell ⟨pm_in hv hj2, br_t (by rw [pm_cl hv hj2]; exact z) (nm_r (nI_1 j) (hX post hp))⟩), fun post hp => br_f h ⟨pm_yin hv hj2, br_t (by rw [pm_ycl hv hj2]; exact z) (nm_r (nI_1 j) (hY post hp))⟩⟩
    by_cases q : s = x
    · exact ⟨nI j, fun post hp => br_f h (pm_cell ⟨pm_in hv hj2, br_f (by rw [pm_cl hv hj2]; exact z) (br_t q hp)⟩), fun post hp => br_f h ⟨pm_yin hv hj2, br_f (by rw [pm_ycl hv hj2]; exact z) (br_t q hp)⟩⟩
    · obtain ⟨r, hX, hY⟩ := ih (j + 1) (s + 1) (by omega)
      exact ⟨r, fun post hp => br_f h (pm_cell ⟨pm_in hv hj2, br_f (by rw [pm_cl hv hj2]; exact z) (br_f q (nm_e (nm_r (nI_1 j) (hX post hp))))⟩), fun post hp => br_f h ⟨pm_yin hv hj2, br_f (by rw [pm_ycl hv hj2]; exact z) (br_f q (nm_e (nm_r (nI_1 j) (hY post hp))))⟩⟩
theorem i_vc_select {k : Nat} {u : SX} {v : SY} (I : i_Rel k u v) (hk : k + 5 ≤ 2560) (v1 : Int32) (v2 : Int32) : wpX_select (fun r => wpY_select (fun r' => r' = r ∧ i_Rel (k + 5) u v) v v1 v2) u v1 v2 := by
  obtain ⟨C, th, vl, w, pX, pY, P, h0, hC, rfl, rfl, hQ, hP⟩ := I
  have R := pm_rel (k := k + 5) h0 hC hQ hP
  unfold wpX_select
  rcases pm_ver v1 hC with hb | ⟨j, hj, rfl⟩
  · refine pm_nX hb (br_t rfl ?_)
    unfold wpY_select
    exact pm_nY hb (br_f pm_10 ⟨rfl, R⟩)
  obtain ⟨r, hX, hY⟩ := pm_sl (show j < 40 by omega) v2 (nI C) th vl w pX pY 32 0 0 rfl
  refine pm_vX hC hj (br_f pm_10 ⟨_, hX _ ?_⟩)
  unfold wpY_select
  exact pm_vY hC hj (br_t rfl ⟨_, hY _ ⟨rfl, R⟩⟩)
