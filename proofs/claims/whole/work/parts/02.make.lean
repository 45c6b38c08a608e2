theorem pm_mk {C v : Nat} (hC : C < 40) (hv : v < C) (pX pY : Nat → Int32) : ∀ (d j : Nat) (th vl w : Nat → Int32), j + d = 32 → pm_Q th vl w → ∃ th' vl' w' : Nat → Int32, pm_Q th' vl' w' ∧ (∀ post : Int32 → SX → Prop, post (nI C) (nI (C + 1), th', vl', upd pX C (nI v)) → wX_makeVersion_7 post (nI v) (nI C) (d + 1) (nI j) (nI C) th vl pX) ∧ (∀ post : Int32 → SY → Prop, post (nI C) (nI (C + 1), upd pY C (nI v), th', w') → wY_make_16 post (nI v) (nI C) (nI C) (d + 1) (nI j) pY th w) := by
  intro d
  induction d with
  | zero =>
    intro j th vl w hj hQ
    have h : (32 : Int32) ≤ nI j := nI_le (a := 32) (by omega) (by omega)
    refine ⟨th, vl, w, hQ, fun post hp => br_t h ⟨vp_in_nI hC (by decide), nm_r ?_ (nm_r (nI_1 C) hp)⟩, fun post hp => br_t h ⟨vp_in_nI hC (by decide), nm_r ?_ (nm_r (nI_1 C) hp)⟩⟩
    · rw [nI_clamp (by omega)]
    · rw [nI_clamp (by omega)]
  | succ d ih =>
    intro j th vl w hj hQ
    have h : ¬ (32 : Int32) ≤ nI j := nI_ge (b := 32) (by omega) (by decide)
    have hj2 : j < 32 := by omega
    have hv2 : v < 40 := by omega
    obtain ⟨th', vl', w', hQ', hX, hY⟩ := ih (j + 1) _ _ _ (by omega) (pm_Qcp hQ (32 * C + j) (32 * v + j))
    refine ⟨th', vl', w', hQ', fun post hp => br_f h (pm_cpX rfl rfl hQ hv2 hj2 hC hj2 (nm_r (nI_1 j) (hX post hp))), fun post hp => br_f h ⟨pm_yin hv2 hj2, pm_yin hC hj2, nm_r ?_ ⟨pm_yin hv2 hj2, pm_yin hC hj2, nm_r ?_ (nm_r (nI_1 j) (hY post hp))⟩⟩⟩
    · rw [pm_ycl hv2 hj2, pm_ycl hC hj2, pm_nb hQ]
    · rw [pm_ycl hv2 hj2, pm_ycl hC hj2]
theorem pm_mkv {C v : Nat} (hC : C < 40) (hv : v < C) {th vl w pX pY : Nat → Int32} {P : Nat → Nat} (hQ : pm_Q th vl w) (hP : pm_P C P pX pY) : ∃ (th' vl' w' pX' pY' : Nat → Int32) (P' : Nat → Nat), pm_Q th' vl' w' ∧ pm_P (C + 1) P' pX' pY' ∧ (∀ post : Int32 → SX → Prop, post (nI C) (nI (C + 1), th', vl', pX') → wpX_makeVersion post (nI C, th, vl, pX) (nI v)) ∧ (∀ post : Int32 → SY → Prop, post (nI C) (nI (C + 1), pY', th', w') → wpY_make post (nI C, pY, th, w) (nI v)) := by
  obtain ⟨th', vl', w', hQ', hX, hY⟩ := pm_mk hC hv pX pY 32 0 th vl w rfl hQ
  refine ⟨th', vl', w', _, _, _, hQ', pm_Pext hP hv, fun post hp => ?_, fun post hp => ?_⟩
  · unfold wpX_makeVersion
    exact ⟨_, hX post hp⟩
  · unfold wpY_make
    exact br_t (nI_le (b := 39) (by omega) (by decide)) ⟨_, hY post hp⟩
theorem i_vc_put {k : Nat} {u : SX} {v : SY} (I : i_Rel k u v) (hk : k + 5 ≤ 2560) (v1 : Int32) (v2 : Int32) (v3 : Int32) : wpX_put (fun r u' => wpY_put (fun r' v' => r' = r ∧ i_Rel (k + 5) u' v') v v1 v2 v3) u v1 v2 v3 := by
  obtain ⟨C, th, vl, w, pX, pY, P, h0, hC, rfl, rfl, hQ, hP⟩ := I
  unfold wpX_put
  dsimp only
  rcases pm_ver v1 hC with hb | ⟨j, hj, rfl⟩
  · refine pm_nX hb (br_t rfl ?_)
    unfold wpY_put
    exact pm_nY hb (br_f pm_10 ⟨rfl, pm_rel h0 hC hQ hP⟩)
  rcases pm_key v2 with hb | ⟨a, ha, rfl⟩
  · refine pm_vX hC hj (br_f pm_10 (pm_nkX hb (br_t rfl ?_)))
    unfold wpY_put
    exact pm_vY hC hj (br_t rfl (pm_nkY hb (br_f pm_10 ⟨rfl, pm_rel h0 hC hQ hP⟩)))
  by_cases hF : C < 40
  · obtain ⟨th', vl', w', pX', pY', P', hQ', hP', hX, hY⟩ := pm_mkv hF hj hQ hP
    refine pm_vX hC hj (br_f pm_10 (pm_kX ha (br_f pm_10 (pm_fX hF (br_t rfl (hX _ (pm_stX rfl hF ha ?_)))))))
    unfold wpY_put
    exact pm_vY hC hj (br_t rfl (pm_kY ha (br_t rfl (hY _ (br_f (nI_pos (by omega)) (pm_stY rfl hF ha ⟨rfl, pm_rel (by omega) (by omega) (pm_Qset hQ' _ _) hP'⟩))))))
  · refine pm_vX hC hj (br_f pm_10 (pm_kX ha (br_f pm_10 (pm_FX hF hC (br_f pm_10 ?_)))))
    unfold wpY_put
    exact pm_vY hC hj (br_t rfl (pm_kY ha (br_t rfl (pm_FY hF hC (br_t (by decide) ⟨rfl, pm_rel h0 hC hQ hP⟩)))))
theorem i_vc_remove {k : Nat} {u : SX} {v : SY} (I : i_Rel k u v) (hk : k + 5 ≤ 2560) (v1 : Int32) (v2 : Int32) : wpX_remove (fun r u' => wpY_remove (fun r' v' => r' = r ∧ i_Rel (k + 5) u' v') v v1 v2) u v1 v2 := by
  obtain ⟨C, th, vl, w, pX, pY, P, h0, hC, rfl, rfl, hQ, hP⟩ := I
  unfold wpX_remove
  dsimp only
  rcases pm_ver v1 hC with hb | ⟨j, hj, rfl⟩
  · refine pm_nX hb (br_t rfl ?_)
    unfold wpY_remove
    exact pm_nY hb (br_f pm_10 ⟨rfl, pm_rel h0 hC hQ hP⟩)
  rcases pm_key v2 with hb | ⟨a, ha, rfl⟩
  · refine pm_vX hC hj (br_f pm_10 (pm_nkX hb (br_t rfl ?_)))
    unfold wpY_remove
    exact pm_vY hC hj (br_t rfl (pm_nkY hb (br_f pm_10 ⟨rfl, pm_rel h0 hC hQ hP⟩)))
  by_cases hF : C < 40
  · obtain ⟨th', vl', w', pX', pY', P', hQ', hP', hX, hY⟩ := pm_mkv hF hj hQ hP
    refine pm_vX hC hj (br_f pm_10 (pm_kX ha (br_f pm_10 (pm_fX hF (br_t rfl (hX _ (pm_clX hF ha ?_)))))))
    unfold wpY_remove
    refine pm_vY hC hj (br_t rfl (pm_kY ha (br_t rfl (hY _ (br_f (nI_pos (by omega)) ⟨pm_yin hF ha, nm_r ?_ ⟨rfl, pm_rel (by omega) (by omega) (pm_Qclr hQ' _) hP'⟩⟩)))))
    rw [pm_ycl hF ha, pm_n0]
  · refine pm_vX hC hj (br_f pm_10 (pm_kX ha (br_f pm_10 (pm_FX hF hC (br_f pm_10 ?_)))))
    unfold wpY_remove
    exact pm_vY hC hj (br_t rfl (pm_kY ha (br_t rfl (pm_FY hF hC (br_t (by decide) ⟨rfl, pm_rel h0 hC hQ hP⟩)))))
theorem i_vc_exchange {k : Nat} {u : SX} {v : SY} (I : i_Rel k u v) (hk : k + 5 ≤ 2560) (v1 : Int32) (v2 : Int32) (v3 : Int32) : wpX_exchange (fun r u' => wpY_exchange (fun r' v' => r' = r ∧ i_Rel (k + 5) u' v') v v1 v2 v3) u v1 v2 v3 := by
  obtain ⟨C, th, vl, w, pX, pY, P, h0, hC, rfl, rfl, hQ, hP⟩ := I
  unfold wpX_exchange
  dsimp only
  rcases pm_ver v1 hC with hb | ⟨j, hj, rfl⟩
  · refine pm_nX hb (br_t rfl ?_)
    unfold wpY_exchange
    exact pm_nY hb (br_f pm_10 ⟨rfl, pm_rel h0 hC hQ hP⟩)
  rcases pm_key v2 with hb | ⟨a, ha, rfl⟩
  · refine pm_vX hC hj (br_f pm_10 (pm_nkX hb (br_t rfl ?_)))
    unfold wpY_exchange
    exact pm_vY hC hj (br_t rfl (pm_nkY hb (br_f pm_10 ⟨rfl, pm_rel h0 hC hQ hP⟩)))
  rcases pm_key v3 with hb | ⟨b, hb, rfl⟩
  · refine pm_vX hC hj (br_f pm_10 (pm_kX ha (br_f pm_10 (pm_nkX hb (br_t rfl ?_)))))
    unfold wpY_exchange
    exact pm_vY hC hj (br_t rfl (pm_kY ha (br_t rfl (pm_nkY hb (br_f pm_10 ⟨rfl, pm_rel h0 hC hQ hP⟩)))))
  by_cases hF : C < 40
  · obtain ⟨th', vl', w', pX', pY', P', hQ', hP', hX, hY⟩ := pm_mkv hF hj hQ hP
    have hj2 : j < 40 := by omega
    have hQ2 := pm_Qcp hQ' (32 * C + b) (32 * j + a)
    refine pm_vX hC hj (br_f pm_10 (pm_kX ha (br_f pm_10 (pm_kX hb (br_f pm_10 (pm_fX hF (br_t rfl (hX _ (pm_cpX rfl rfl hQ' hj2 ha hF hb (pm_cpX rfl rfl hQ2 hj2 hb hF ha ?_))))))))))
    unfold wpY_exchange
    exact pm_vY hC hj (br_t rfl (pm_kY ha (br_t rfl (pm_kY hb (br_t rfl (hY _ (br_f (nI_pos (by omega)) (pm_cpY rfl rfl hQ' hj2 ha hF hb (pm_cpY rfl rfl hQ2 hj2 hb hF ha ⟨rfl, pm_rel (by omega) (by omega) (pm_Qcp hQ2 _ _) hP'⟩)))))))))
  · refine pm_vX hC hj (br_f pm_10 (pm_kX ha (br_f pm_10 (pm_kX hb (br_f pm_10 (pm_FX hF hC (br_f pm_10 ?_)))))))
    unfold wpY_exchange
    exact pm_vY hC hj (br_t rfl (pm_kY ha (br_t rfl (pm_kY hb (br_t rfl (pm_FY hF hC (br_t (by decide) ⟨rfl, pm_rel h0 hC hQ hP⟩)))))))
