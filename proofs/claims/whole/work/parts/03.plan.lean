theorem pm_shn {x : Int32} (h : x < 0) : x >>> ((4 : Int32) &&& 31) < 0 := by
  have h2 : x.toInt < 0 := by
    have h3 := Int32.lt_iff_toInt_lt.mp h
    rw [show (0 : Int32).toInt = 0 from by decide] at h3
    exact h3
  rw [Int32.lt_iff_toInt_lt, pk_shr x _ 4 (by decide), Int.shiftRight_eq_div_pow, show (0 : Int32).toInt = 0 from by decide, show ((2 ^ 4 : Nat) : Int) = 16 from rfl]
  omega
theorem pm_plX {post : Int32 → Prop} {x y z : Int32} (e1 : x >>> ((4 : Int32) &&& 31) = y) (e2 : x &&& 15 = z) (h : (y < 0 → post 0) ∧ (¬ y < 0 → ((z < 1 → post 0) ∧ (¬ z < 1 → ((8 < z → post 0) ∧ (¬ 8 < z → ((32 < y + z → post 0) ∧ (¬ 32 < y + z → post 1)))))))) : wpX_isPlan post x := by
  subst e1 e2
  unfold wpX_isPlan wpX_planFirst wpX_planCount
  exact h
theorem pm_plY {post : Int32 → Prop} {x y z : Int32} {u : SY} (e1 : x / 16 = y) (e2 : x - x / 16 * 16 = z) (h0 : ¬ x < 0) (h : (31 < y → post 1) ∧ (¬ 31 < y → ((z < 1 → post 1) ∧ (¬ z < 1 → ((z ≤ 8 → ((y + z ≤ 32 → post 0) ∧ (¬ y + z ≤ 32 → post 1))) ∧ (¬ z ≤ 8 → post 1)))))) : wpY_badPlan post u x := by
  have d : ¬ (16 : Int32) = 0 := by decide
  subst e1 e2
  obtain ⟨c, p, t, w⟩ := u
  unfold wpY_badPlan
  exact br_f h0 ⟨d, br_c h.1 fun a => ⟨d, br_c (h.2 a).1 fun b => ⟨d, br_c (fun c => ⟨d, d, ((h.2 a).2 b).1 c⟩) ((h.2 a).2 b).2⟩⟩⟩
theorem pm_plan (x : Int32) : ((∀ post : Int32 → Prop, post 0 → wpX_isPlan post x) ∧ (∀ (post : Int32 → Prop) (u : SY), post 1 → wpY_badPlan post u x)) ∨ ∃ f n : Nat, 1 ≤ n ∧ n ≤ 8 ∧ f + n ≤ 32 ∧ x >>> ((4 : Int32) &&& 31) = nI f ∧ x &&& 15 = nI n ∧ x / 16 = nI f ∧ x - x / 16 * 16 = nI n ∧ (∀ post : Int32 → Prop, post 1 → wpX_isPlan post x) ∧ (∀ (post : Int32 → Prop) (u : SY), post 0 → wpY_badPlan post u x) := by
  by_cases h : x < 0
  · refine Or.inl ⟨fun post hp => pm_plX rfl rfl (br_t (pm_shn h) hp), fun post u hp => ?_⟩
    obtain ⟨c, p, t, w⟩ := u
    unfold wpY_badPlan
    exact br_t h hp
  · obtain ⟨n, hn, rfl⟩ := nI_of h
    have e1 : nI n >>> ((4 : Int32) &&& 31) = nI (n / 16) := pk_shrN hn _ 4 (by decide)
    have e2 : nI n &&& 15 = nI (n % 16) := pk_andN (by omega) 4 (by decide)
    have e3 : nI n / 16 = nI (n / 16) := pk_div (d := 16) hn (by decide) (by decide)
    have e4 : nI n - nI n / 16 * 16 = nI (n % 16) := pk_rem (d := 16) hn (by decide) (by decide)
    have hf : n / 16 < 2 ^ 28 := by omega
    have hr : n % 16 < 16 := by omega
    generalize n / 16 = f at e1 e3 hf
    generalize n % 16 = m at e2 e4 hr
    by_cases g : 1 ≤ m ∧ m ≤ 8 ∧ f + m ≤ 32
    · obtain ⟨g1, g2, g3⟩ := g
      refine Or.inr ⟨f, m, g1, g2, g3, e1, e2, e3, e4, fun post hp => pm_plX e1 e2 ?_, fun post u hp => pm_plY e3 e4 h ?_⟩
      · exact br_f (nI_pos (by omega)) (br_f (nI_nlt (b := 1) g1 (by omega)) (br_f (nI_nlt (a := 8) g2 (by decide)) (br_f (by rw [nI_add]; exact nI_nlt (a := 32) g3 (by decide)) hp)))
      · exact br_f (nI_nlt (a := 31) (by omega) (by decide)) (br_f (nI_nlt (b := 1) g1 (by omega)) (br_t (nI_le (b := 8) g2 (by decide)) (br_t (by rw [nI_add]; exact nI_le (b := 32) g3 (by decide)) hp)))
    · refine Or.inl ⟨fun post hp => pm_plX e1 e2 (br_f (nI_pos (by omega)) ?_), fun post u hp => pm_plY e3 e4 h ?_⟩
      · exact pk_lt m 1 (fun _ => hp) fun a => pk_lt 8 m (fun _ => hp) fun b => pk_lt 32 (f + m) (fun _ => hp) (fun c => absurd ⟨a, b, c⟩ g) (hy := nI_add f m)
      · exact pk_lt 31 f (fun _ => hp) fun _ => pk_lt m 1 (fun _ => hp) fun a => pk_le m 8 (fun b => pk_le (f + m) 32 (fun c => absurd ⟨a, b, c⟩ g) (fun _ => hp) (hx := nI_add f m)) (fun _ => hp)
theorem pm_fl {C f n : Nat} (hC : C < 40) (hn : n ≤ 8) (hfn : f + n ≤ 32) {x : Int32} (val st c : Int32) (pX pY : Nat → Int32) (ed : x / 16 = nI f) (er : x - x / 16 * 16 = nI n) : ∀ (d j : Nat) (th vl w : Nat → Int32), j + d = n → pm_Q th vl w → ∃ th' vl' w' : Nat → Int32, pm_Q th' vl' w' ∧ (∀ post : Int32 → SX → Prop, post (nI C) (c, th', vl', pX) → wX_fill_52 post val st (nI C) (nI f) (nI n) (d + 1) (nI j) c th vl pX) ∧ (∀ post : Int32 → SY → Prop, post (nI C) (c, pY, th', w') → wY_fill_31 post x val st (nI C) (d + 1) (nI j) c pY th w) := by
  have d16 : ¬ (16 : Int32) = 0 := by decide
  intro d
  induction d with
  | zero =>
    intro j th vl w hj hQ
    have h : nI n ≤ nI j := nI_le (by omega) (by omega)
    exact ⟨th, vl, w, hQ, fun post hp => br_t h hp, fun post hp => ⟨d16, br_t (by rw [er]; exact h) hp⟩⟩
  | succ d ih =>
    intro j th vl w hj hQ
    have h : ¬ nI n ≤ nI j := nI_ge (by omega) (by omega)
    have hj2 : f + j < 32 := by omega
    obtain ⟨th', vl', w', hQ', hX, hY⟩ := ih (j + 1) _ _ _ (by omega) (pm_Qset hQ (32 * C + (f + j)) (val + nI j * st))
    exact ⟨th', vl', w', hQ', fun post hp => br_f h (pm_stX (nI_add f j) hC hj2 (nm_r (nI_1 j) (hX post hp))), fun post hp => ⟨d16, br_f (by rw [er]; exact h) (br_f (nI_pos (by omega)) ⟨d16, pm_stY (by rw [ed, nI_add]) hC hj2 (nm_r (nI_1 j) (hY post hp))⟩)⟩⟩
theorem pm_gr {C f n m : Nat} (hC : C < 40) (hm : m < 40) (hn : n ≤ 8) (hfn : f + n ≤ 32) {x : Int32} (c : Int32) (pX pY : Nat → Int32) (ed : x / 16 = nI f) (er : x - x / 16 * 16 = nI n) : ∀ (d j : Nat) (th vl w : Nat → Int32), j + d = n → pm_Q th vl w → ∃ th' vl' w' : Nat → Int32, pm_Q th' vl' w' ∧ (∀ post : Int32 → SX → Prop, post (nI C) (c, th', vl', pX) → wX_graft_61 post (nI m) (nI C) (nI f) (nI n) (d + 1) (nI (f + j)) c th vl pX) ∧ (∀ post : Int32 → SY → Prop, post (nI C) (c, pY, th', w') → wY_graft_39 post (nI m) x (nI C) (d + 1) (nI j) c pY th w) := by
  have d16 : ¬ (16 : Int32) = 0 := by decide
  intro d
  induction d with
  | zero =>
    intro j th vl w hj hQ
    have h : nI n ≤ nI j := nI_le (by omega) (by omega)
    exact ⟨th, vl, w, hQ, fun post hp => br_t (by rw [nI_add]; exact nI_le (by omega) (by omega)) hp, fun post hp => ⟨d16, br_t (by rw [er]; exact h) hp⟩⟩
  | succ d ih =>
    intro j th vl w hj hQ
    have h : ¬ nI n ≤ nI j := nI_ge (by omega) (by omega)
    have hj2 : f + j < 32 := by omega
    obtain ⟨th', vl', w', hQ', hX, hY⟩ := ih (j + 1) _ _ _ (by omega) (pm_Qcp hQ (32 * C + (f + j)) (32 * m + (f + j)))
    exact ⟨th', vl', w', hQ', fun post hp => br_f (by rw [nI_add]; exact nI_ge (by omega) (by omega)) (pm_cpX rfl rfl hQ hm hj2 hC hj2 (nm_r (nI_1 (f + j)) (hX post hp))), fun post hp => ⟨d16, br_f (by rw [er]; exact h) (br_f (nI_pos (by omega)) ⟨d16, d16, pm_cpY (by rw [ed, nI_add]) (by rw [ed, nI_add]) hQ hm hj2 hC hj2 (nm_r (nI_1 j) (hY post hp))⟩)⟩⟩
theorem i_vc_fill {k : Nat} {u : SX} {v : SY} (I : i_Rel k u v) (hk : k + 5 ≤ 2560) (v1 : Int32) (v2 : Int32) (v3 : Int32) (v4 : Int32) : wpX_fill (fun r u' => wpY_fill (fun r' v' => r' = r ∧ i_Rel (k + 5) u' v') v v1 v2 v3 v4) u v1 v2 v3 v4 := by
  have d16 : ¬ (16 : Int32) = 0 := by decide
  obtain ⟨C, th, vl, w, pX, pY, P, h0, hC, rfl, rfl, hQ, hP⟩ := I
  unfold wpX_fill
  rcases pm_ver v1 hC with hb | ⟨j, hj, rfl⟩
  · refine pm_nX hb (br_t rfl ?_)
    unfold wpY_fill
    exact pm_nY hb (br_f pm_10 ⟨rfl, pm_rel h0 hC hQ hP⟩)
  rcases pm_plan v2 with ⟨bX, bY⟩ | ⟨f, n, n1, n8, hfn, e1, e2, e3, e4, gX, gY⟩
  · refine pm_vX hC hj (br_f pm_10 (bX _ (br_t rfl ?_)))
    unfold wpY_fill
    exact pm_vY hC hj (br_t rfl (bY _ _ (br_f pm_10 ⟨rfl, pm_rel h0 hC hQ hP⟩)))
  by_cases hF : C < 40
  · obtain ⟨th', vl', w', pX', pY', P', hQ', hP', hX, hY⟩ := pm_mkv hF hj hQ hP
    obtain ⟨th2, vl2, w2, hQ2, hX2, hY2⟩ := pm_fl hF n8 hfn v3 v4 (nI (C + 1)) pX' pY' e3 e4 n 0 th' vl' w' (by omega) hQ'
    refine pm_vX hC hj (br_f pm_10 (gX _ (br_f pm_10 (pm_fX hF (br_t rfl (hX _ ?_))))))
    unfold wpX_planFirst wpX_planCount
    rw [e1, e2]
    refine ⟨_, hX2 _ ?_⟩
    unfold wpY_fill
    exact pm_vY hC hj (br_t rfl (gY _ _ (br_t rfl (hY _ ⟨_, hY2 _ ⟨rfl, pm_rel (by omega) (by omega) hQ2 hP'⟩⟩))))
  · refine pm_vX hC hj (br_f pm_10 (gX _ (br_f pm_10 (pm_FX hF hC (br_f pm_10 ?_)))))
    unfold wpY_fill
    exact pm_vY hC hj (br_t rfl (gY _ _ (br_t rfl (pm_FY hF hC ⟨1, d16, br_f (by rw [e4]; exact nI_nle (by omega) (by omega)) (br_t (by decide) ⟨rfl, pm_rel h0 hC hQ hP⟩)⟩))))
theorem i_vc_graft {k : Nat} {u : SX} {v : SY} (I : i_Rel k u v) (hk : k + 5 ≤ 2560) (v1 : Int32) (v2 : Int32) (v3 : Int32) : wpX_graft (fun r u' => wpY_graft (fun r' v' => r' = r ∧ i_Rel (k + 5) u' v') v v1 v2 v3) u v1 v2 v3 := by
  have d16 : ¬ (16 : Int32) = 0 := by decide
  obtain ⟨C, th, vl, w, pX, pY, P, h0, hC, rfl, rfl, hQ, hP⟩ := I
  unfold wpX_graft
  rcases pm_ver v1 hC with hb | ⟨j, hj, rfl⟩
  · refine pm_nX hb (br_t rfl ?_)
    unfold wpY_graft
    exact pm_nY hb (br_f pm_10 ⟨rfl, pm_rel h0 hC hQ hP⟩)
  rcases pm_ver v2 hC with hb | ⟨m, hm, rfl⟩
  · refine pm_vX hC hj (br_f pm_10 (pm_nX hb (br_t rfl ?_)))
    unfold wpY_graft
    exact pm_vY hC hj (br_t rfl (pm_nY hb (br_f pm_10 ⟨rfl, pm_rel h0 hC hQ hP⟩)))
  rcases pm_plan v3 with ⟨bX, bY⟩ | ⟨f, n, n1, n8, hfn, e1, e2, e3, e4, gX, gY⟩
  · refine pm_vX hC hj (br_f pm_10 (pm_vX hC hm (br_f pm_10 (bX _ (br_t rfl ?_)))))
    unfold wpY_graft
    exact pm_vY hC hj (br_t rfl (pm_vY hC hm (br_t rfl (bY _ _ (br_f pm_10 ⟨rfl, pm_rel h0 hC hQ hP⟩)))))
  by_cases hF : C < 40
  · obtain ⟨th', vl', w', pX', pY', P', hQ', hP', hX, hY⟩ := pm_mkv hF hj hQ hP
    obtain ⟨th2, vl2, w2, hQ2, hX2, hY2⟩ := pm_gr hF (show m < 40 by omega) n8 hfn (nI (C + 1)) pX' pY' e3 e4 n 0 th' vl' w' (by omega) hQ'
    refine pm_vX hC hj (br_f pm_10 (pm_vX hC hm (br_f pm_10 (gX _ (br_f pm_10 (pm_fX hF (br_t rfl (hX _ ?_))))))))
    unfold wpX_planFirst wpX_planCount
    rw [e1, e2]
    refine ⟨_, hX2 _ ?_⟩
    unfold wpY_graft
    exact pm_vY hC hj (br_t rfl (pm_vY hC hm (br_t rfl (gY _ _ (br_t rfl (hY _ ⟨_, hY2 _ ⟨rfl, pm_rel (by omega) (by omega) hQ2 hP'⟩⟩))))))
  · refine pm_vX hC hj (br_f pm_10 (pm_vX hC hm (br_f pm_10 (gX _ (br_f pm_10 (pm_FX hF hC (br_f pm_10 ?_)))))))
    unfold wpY_graft
    exact pm_vY hC hj (br_t rfl (pm_vY hC hm (br_t rfl (gY _ _ (br_t rfl (pm_FY hF hC ⟨1, d16, br_f (by rw [e4]; exact nI_nle (by omega) (by omega)) (br_t (by decide) ⟨rfl, pm_rel h0 hC hQ hP⟩)⟩))))))
