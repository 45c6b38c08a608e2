/-- from x towards version 0, at most n steps, until it is no longer above v -/
def pm_go (P : Nat → Nat) (v : Nat) : Nat → Nat → Nat
  | 0, x => x
  | n + 1, x => if x ≤ v then x else pm_go P v n (P x)
theorem pm_go_le {P : Nat → Nat} {v x : Nat} (h : x ≤ v) (n : Nat) : pm_go P v n x = x := by
  cases n with
  | zero => rfl
  | succ n => exact if_pos h
theorem pm_go_s {P : Nat → Nat} {v x : Nat} (h : ¬ x ≤ v) (n : Nat) : pm_go P v (n + 1) x = pm_go P v n (P x) := if_neg h
/-- v is an ancestor of w -/
def pm_A (P : Nat → Nat) (v w : Nat) : Bool := decide (pm_go P v 40 w = v)
theorem pm_A_lt {P : Nat → Nat} {v w : Nat} (h : w < v) : pm_A P v w = false := by
  unfold pm_A
  rw [pm_go_le (by omega)]
  exact decide_eq_false (by omega)
def pm_bit (b : Bool) : Int32 := match b with
  | true => 1
  | false => 0
theorem pm_eqb {post : Int32 → Prop} {x v : Nat} (hx : x < 40) (hv : v < 40) (h : post (pm_bit (decide (x = v)))) : (nI x = nI v → post 1) ∧ (¬ nI x = nI v → post 0) := by
  by_cases e : x = v
  · rw [decide_eq_true e] at h
    exact br_t (congrArg nI e) h
  · rw [decide_eq_false e] at h
    exact br_f (fun z => e ((nI_eq (by omega) (by omega)).mp z)) h
theorem pm_ld {C v : Nat} (hC : C ≤ 40) (hv : v < C) {th w pX pY : Nat → Int32} {P : Nat → Nat} (hP : pm_P C P pX pY) (c : Int32) (post : Int32 → Prop) : ∀ (d i x : Nat), i + d = 40 → x < C → post (pm_bit (decide (pm_go P v d x = v))) → wY_leads_5 post (nI v) c pY th w (d + 1) (nI x) (nI i) := by
  intro d
  induction d with
  | zero =>
    intro i x hi hx hp
    have h : (40 : Int32) ≤ nI i := nI_le (a := 40) (by omega) (by omega)
    exact br_t h (pm_eqb (by omega) (by omega) hp)
  | succ d ih =>
    intro i x hi hx hp
    have h : ¬ (40 : Int32) ≤ nI i := nI_ge (b := 40) (by omega) (by decide)
    by_cases q : x ≤ v
    · rw [pm_go_le q] at hp
      exact br_f h (br_t (nI_le q (by omega)) (pm_eqb (by omega) (by omega) hp))
    · rw [pm_go_s q] at hp
      obtain ⟨p1, _, p3⟩ := hP x (by omega) hx
      exact br_f h (br_f (nI_ge (by omega) (by omega)) ⟨vp_in_nI (by omega) (by decide), nm_r (by rw [nI_clamp (by omega)]; exact p3) (nm_r (nI_1 i) (ih (i + 1) (P x) (by omega) (by omega) hp))⟩)
theorem pm_ldY {post : Int32 → Prop} {C v x : Nat} {th w pX pY : Nat → Int32} {P : Nat → Nat} (hC : C ≤ 40) (hP : pm_P C P pX pY) (hv : v < C) (hx : x < C) {b : Bool} (hb : pm_A P v x = b) (h : post (pm_bit b)) : wpY_leads post (nI C, pY, th, w) (nI v) (nI x) := by
  unfold wpY_leads
  exact ⟨41, pm_ld hC hv hP (nI C) post 40 0 x rfl hx (by unfold pm_A at hb; rw [hb]; exact h)⟩
theorem pm_an {C v : Nat} (hC : C ≤ 40) {th vl pX pY : Nat → Int32} {P : Nat → Nat} (hP : pm_P C P pX pY) (c : Int32) (post : Int32 → Prop) : ∀ (d x n : Nat), x ≤ v + d → v + d < C → d ≤ n → post (pm_bit (decide (pm_go P v n x = v))) → wX_isAncestor_5 post (nI v) c th vl pX (d + 1) (nI x) (nI (v + d)) := by
  intro d
  induction d with
  | zero =>
    intro x n hx hd hn hp
    rw [pm_go_le (show x ≤ v by omega)] at hp
    exact br_t (nI_le (by omega) (by omega)) (pm_eqb (by omega) (by omega) hp)
  | succ d ih =>
    intro x n hx hd hn hp
    have h : ¬ nI (v + (d + 1)) ≤ nI v := nI_ge (by omega) (by omega)
    by_cases e : v + (d + 1) = x
    · obtain ⟨p1, p2, _⟩ := hP x (by omega) (by omega)
      obtain ⟨m, rfl⟩ : ∃ m, n = m + 1 := ⟨n - 1, by omega⟩
      rw [pm_go_s (by omega)] at hp
      exact br_f h (br_t (congrArg nI e) ⟨vp_in_nI (by omega) (by decide), nm_r (by rw [nI_clamp (by omega), e]; exact p2) (nm_r (pk_m1 (v + d)) (ih (P x) m (by omega) (by omega) (by omega) hp))⟩)
    · exact br_f h (br_f (fun z => e ((nI_eq (by omega) (by omega)).mp z)) (nm_r (pk_m1 (v + d)) (ih x n (by omega) (by omega) (by omega) hp)))
theorem pm_anX {post : Int32 → Prop} {C v x : Nat} {th vl pX pY : Nat → Int32} {P : Nat → Nat} (hC : C ≤ 40) (hP : pm_P C P pX pY) (hv : v < C) (hx : x < C) {b : Bool} (hb : pm_A P v x = b) (h : post (pm_bit b)) : wpX_isAncestor post (nI C, th, vl, pX) (nI v) (nI x) := by
  rw [← hb] at h
  unfold pm_A at h
  unfold wpX_isAncestor
  by_cases q : v ≤ x
  · obtain ⟨d, rfl⟩ : ∃ d, x = v + d := ⟨x - v, by omega⟩
    exact ⟨d + 1, pm_an hC hP (nI C) post d (v + d) 40 (by omega) hx (by omega) h⟩
  · rw [pm_go_le (by omega)] at h
    exact ⟨1, br_t (nI_le (by omega) (by omega)) (pm_eqb (by omega) (by omega) h)⟩
theorem i_vc_ancestor {k : Nat} {u : SX} {v : SY} (I : i_Rel k u v) (hk : k + 5 ≤ 2560) (v1 : Int32) (v2 : Int32) : wpX_ancestor (fun r => wpY_ancestor (fun r' => r' = r ∧ i_Rel (k + 5) u v) v v1 v2) u v1 v2 := by
  obtain ⟨C, th, vl, w, pX, pY, P, h0, hC, rfl, rfl, hQ, hP⟩ := I
  have R := pm_rel (k := k + 5) h0 hC hQ hP
  unfold wpX_ancestor
  rcases pm_ver v1 hC with hb | ⟨j, hj, rfl⟩
  · refine pm_nX hb (br_t rfl ?_)
    unfold wpY_ancestor
    exact pm_nY hb (br_f pm_10 ⟨rfl, R⟩)
  rcases pm_ver v2 hC with hb | ⟨m, hm, rfl⟩
  · refine pm_vX hC hj (br_f pm_10 (pm_nX hb (br_t rfl ?_)))
    unfold wpY_ancestor
    exact pm_vY hC hj (br_t rfl (pm_nY hb (br_f pm_10 ⟨rfl, R⟩)))
  cases hA : pm_A P j m with
  | false =>
    refine pm_vX hC hj (br_f pm_10 (pm_vX hC hm (br_f pm_10 (pm_anX hC hP hj hm hA (br_t rfl ?_)))))
    unfold wpY_ancestor
    exact pm_vY hC hj (br_t rfl (pm_vY hC hm (br_t rfl (pm_ldY hC hP hj hm hA (br_t rfl ⟨rfl, R⟩)))))
  | true =>
    refine pm_vX hC hj (br_f pm_10 (pm_vX hC hm (br_f pm_10 (pm_anX hC hP hj hm hA (br_f pm_10 ?_)))))
    unfold wpY_ancestor
    exact pm_vY hC hj (br_t rfl (pm_vY hC hm (br_t rfl (pm_ldY hC hP hj hm hA (br_f pm_10 ⟨rfl, R⟩)))))
/-- how many below n are counted by f -/
def pm_cnt (f : Nat → Bool) : Nat → Nat
  | 0 => 0
  | n + 1 => match f n with
    | true => pm_cnt f n + 1
    | false => pm_cnt f n
theorem pm_cnt_t {f : Nat → Bool} {n : Nat} (h : f n = true) : pm_cnt f (n + 1) = pm_cnt f n + 1 := by
  show (match f n with | true => pm_cnt f n + 1 | false => pm_cnt f n) = _
  rw [h]
theorem pm_cnt_f {f : Nat → Bool} {n : Nat} (h : f n = false) : pm_cnt f (n + 1) = pm_cnt f n := by
  show (match f n with | true => pm_cnt f n + 1 | false => pm_cnt f n) = _
  rw [h]
theorem pm_cnt_0 {f : Nat → Bool} : ∀ n : Nat, (∀ j, j < n → f j = false) → pm_cnt f n = 0 := by
  intro n
  induction n with
  | zero => intro _; rfl
  | succ n ih => intro h; rw [pm_cnt_f (h n (by omega))]; exact ih fun j hj => h j (by omega)
theorem pm_fmX {C v : Nat} (hC : C ≤ 40) (hv : v < C) {th vl pX pY : Nat → Int32} {P : Nat → Nat} (hP : pm_P C P pX pY) (post : Int32 → Prop) (hp : post (nI (pm_cnt (pm_A P v) C))) : ∀ (d i : Nat), i + d = C → wX_family_14 post (nI v) (nI C) th vl pX (d + 1) (nI (pm_cnt (pm_A P v) i)) (nI i) := by
  intro d
  induction d with
  | zero =>
    intro i hi
    obtain rfl : i = C := by omega
    exact br_t (nI_le (by omega) (by omega)) hp
  | succ d ih =>
    intro i hi
    have h : ¬ nI C ≤ nI i := nI_ge (by omega) (by omega)
    have H := ih (i + 1) (by omega)
    cases hA : pm_A P v i with
    | false =>
      rw [pm_cnt_f hA] at H
      exact br_f h (pm_anX hC hP hv (by omega) hA (br_t rfl (nm_r (nI_1 i) H)))
    | true =>
      rw [pm_cnt_t hA] at H
      exact br_f h (pm_anX hC hP hv (by omega) hA (br_f pm_10 (nm_r (nI_1 _) (nm_r (nI_1 i) H))))
theorem pm_fmY {C v : Nat} (hC : C ≤ 40) (hv : v < C) {th w pX pY : Nat → Int32} {P : Nat → Nat} (hP : pm_P C P pX pY) (post : Int32 → Prop) (hp : post (nI (pm_cnt (pm_A P v) C))) : ∀ (d i : Nat), i + d = C → wY_family_14 post (nI v) (nI C) pY th w (d + 1) (nI (pm_cnt (pm_A P v) i)) (nI i) := by
  intro d
  induction d with
  | zero =>
    intro i hi
    obtain rfl : i = C := by omega
    exact br_t (nI_le (by omega) (by omega)) hp
  | succ d ih =>
    intro i hi
    have h : ¬ nI C ≤ nI i := nI_ge (by omega) (by omega)
    have H := ih (i + 1) (by omega)
    cases hA : pm_A P v i with
    | false =>
      rw [pm_cnt_f hA] at H
      exact br_f h (pm_ldY hC hP hv (by omega) hA (br_t rfl (nm_r (nI_1 i) H)))
    | true =>
      rw [pm_cnt_t hA] at H
      exact br_f h (pm_ldY hC hP hv (by omega) hA (br_f pm_10 (nm_r (nI_1 _) (nm_r (nI_1 i) H))))
theorem i_vc_family {k : Nat} {u : SX} {v : SY} (I : i_Rel k u v) (hk : k + 5 ≤ 2560) (v1 : Int32) : wpX_family (fun r => wpY_family (fun r' => r' = r ∧ i_Rel (k + 5) u v) v v1) u v1 := by
  obtain ⟨C, th, vl, w, pX, pY, P, h0, hC, rfl, rfl, hQ, hP⟩ := I
  have R := pm_rel (k := k + 5) h0 hC hQ hP
  unfold wpX_family
  rcases pm_ver v1 hC with hb | ⟨j, hj, rfl⟩
  · refine pm_nX hb (br_t rfl ?_)
    unfold wpY_family
    exact pm_nY hb (br_f pm_10 ⟨rfl, R⟩)
  have e : pm_cnt (pm_A P j) j = 0 := pm_cnt_0 j fun i hi => pm_A_lt hi
  have hX := fun (post : Int32 → Prop) hp => pm_fmX (th := th) (vl := vl) hC hj hP post hp (C - j) j (by omega)
  rw [e] at hX
  have hY := fun (post : Int32 → Prop) hp => pm_fmY (th := th) (w := w) hC hj hP post hp C 0 (by omega)
  refine pm_vX hC hj (br_f pm_10 ⟨_, hX _ ?_⟩)
  unfold wpY_family
  exact pm_vY hC hj (br_t rfl ⟨_, hY _ ⟨rfl, R⟩⟩)
/-- the last below n that f takes, or 0 -/
def pm_last (f : Nat → Bool) : Nat → Nat
  | 0 => 0
  | n + 1 => match f n with
    | true => n
    | false => pm_last f n
theorem pm_last_t {f : Nat → Bool} {n : Nat} (h : f n = true) : pm_last f (n + 1) = n := by
  show (match f n with | true => n | false => pm_last f n) = _
  rw [h]
theorem pm_last_f {f : Nat → Bool} {n : Nat} (h : f n = false) : pm_last f (n + 1) = pm_last f n := by
  show (match f n with | true => n | false => pm_last f n) = _
  rw [h]
theorem pm_last_1 (f : Nat → Bool) : pm_last f 1 = 0 := by
  cases h : f 0 with
  | false => rw [pm_last_f h]; rfl
  | true => rw [pm_last_t h]
theorem pm_last_up {f : Nat → Bool} {v : Nat} (h : ∀ x, v < x → f x = false) : ∀ d : Nat, pm_last f (v + 1 + d) = pm_last f (v + 1) := by
  intro d
  induction d with
  | zero => rfl
  | succ d ih => rw [← Nat.add_assoc, pm_last_f (h _ (by omega))]; exact ih
def pm_M (P : Nat → Nat) (v w : Nat) : Nat → Bool := fun x => pm_A P x v && pm_A P x w
theorem pm_M_ff {P : Nat → Nat} {v w x : Nat} (h : pm_A P x v = false) : pm_M P v w x = false := by
  show (pm_A P x v && pm_A P x w) = false
  rw [h]; rfl
theorem pm_M_tb {P : Nat → Nat} {v w x : Nat} {b : Bool} (h : pm_A P x v = true) (h2 : pm_A P x w = b) : pm_M P v w x = b := by
  show (pm_A P x v && pm_A P x w) = b
  rw [h, h2]; rfl
theorem pm_mtX {C a b : Nat} (hC : C ≤ 40) (ha : a < C) (hb : b < C) {th vl pX pY : Nat → Int32} {P : Nat → Nat} (hP : pm_P C P pX pY) (post : Int32 → Prop) : ∀ d : Nat, d < C → post (nI (pm_last (pm_M P a b) (d + 1))) → wX_meet_20 post (nI a) (nI b) (nI C) th vl pX (d + 1) (nI d) := by
  intro d
  induction d with
  | zero =>
    intro _ hp
    rw [pm_last_1] at hp
    exact br_t (nI_le (b := 0) (by omega) (by decide)) hp
  | succ d ih =>
    intro hd hp
    have h : ¬ nI (d + 1) ≤ 0 := nI_nle (by omega) (by omega)
    cases hA : pm_A P (d + 1) a with
    | false =>
      rw [pm_last_f (pm_M_ff hA)] at hp
      exact br_f h (pm_anX hC hP hd ha hA (br_t rfl (nm_r (pk_m1 d) (ih (by omega) hp))))
    | true =>
      cases hB : pm_A P (d + 1) b with
      | false =>
        rw [pm_last_f (pm_M_tb hA hB)] at hp
        exact br_f h (pm_anX hC hP hd ha hA (br_f pm_10 (pm_anX hC hP hd hb hB (br_t rfl (nm_r (pk_m1 d) (ih (by omega) hp))))))
      | true =>
        rw [pm_last_t (pm_M_tb hA hB)] at hp
        exact br_f h (pm_anX hC hP hd ha hA (br_f pm_10 (pm_anX hC hP hd hb hB (br_f pm_10 hp))))
theorem pm_mtY {C a b : Nat} (hC : C ≤ 40) (ha : a < C) (hb : b < C) {th w pX pY : Nat → Int32} {P : Nat → Nat} (hP : pm_P C P pX pY) (post : Int32 → Prop) (hp : post (nI (pm_last (pm_M P a b) C))) : ∀ (d i : Nat), i + d = C → wY_meet_23 post (nI a) (nI b) (nI C) pY th w (d + 1) (nI (pm_last (pm_M P a b) i)) (nI i) := by
  intro d
  induction d with
  | zero =>
    intro i hi
    obtain rfl : i = C := by omega
    exact br_t (nI_le (by omega) (by omega)) hp
  | succ d ih =>
    intro i hi
    have h : ¬ nI C ≤ nI i := nI_ge (by omega) (by omega)
    have hd : i < C := by omega
    have H := ih (i + 1) (by omega)
    cases hA : pm_A P i a with
    | false =>
      rw [pm_last_f (pm_M_ff hA)] at H
      exact br_f h (pm_ldY hC hP hd ha hA (br_t rfl (nm_r (nI_1 i) H)))
    | true =>
      cases hB : pm_A P i b with
      | false =>
        rw [pm_last_f (pm_M_tb hA hB)] at H
        exact br_f h (pm_ldY hC hP hd ha hA (br_f pm_10 (pm_ldY hC hP hd hb hB (br_t rfl (nm_r (nI_1 i) H)))))
      | true =>
        rw [pm_last_t (pm_M_tb hA hB)] at H
        exact br_f h (pm_ldY hC hP hd ha hA (br_f pm_10 (pm_ldY hC hP hd hb hB (br_f pm_10 (nm_r (nI_1 i) H)))))
theorem i_vc_meet {k : Nat} {u : SX} {v : SY} (I : i_Rel k u v) (hk : k + 5 ≤ 2560) (v1 : Int32) (v2 : Int32) : wpX_meet (fun r => wpY_meet (fun r' => r' = r ∧ i_Rel (k + 5) u v) v v1 v2) u v1 v2 := by
  obtain ⟨C, th, vl, w, pX, pY, P, h0, hC, rfl, rfl, hQ, hP⟩ := I
  have R := pm_rel (k := k + 5) h0 hC hQ hP
  unfold wpX_meet
  rcases pm_ver v1 hC with hb | ⟨j, hj, rfl⟩
  · refine pm_nX hb (br_t rfl ?_)
    unfold wpY_meet
    exact pm_nY hb (br_f pm_10 ⟨rfl, R⟩)
  rcases pm_ver v2 hC with hb | ⟨m, hm, rfl⟩
  · refine pm_vX hC hj (br_f pm_10 (pm_nX hb (br_t rfl ?_)))
    unfold wpY_meet
    exact pm_vY hC hj (br_t rfl (pm_nY hb (br_f pm_10 ⟨rfl, R⟩)))
  have e := pm_last_up (f := pm_M P j m) (v := j) (fun x hx => pm_M_ff (pm_A_lt hx)) (C - (j + 1))
  rw [show j + 1 + (C - (j + 1)) = C by omega] at e
  have hX := fun (post : Int32 → Prop) hp => pm_mtX (th := th) (vl := vl) hC hj hm hP post j hj hp
  have hY := fun (post : Int32 → Prop) hp => pm_mtY (th := th) (w := w) hC hj hm hP post hp C 0 (by omega)
  refine pm_vX hC hj (br_f pm_10 (pm_vX hC hm (br_f pm_10 ⟨_, hX _ ?_⟩)))
  rw [← e]
  unfold wpY_meet
  exact pm_vY hC hj (br_t rfl (pm_vY hC hm (br_t rfl ⟨_, hY _ ⟨rfl, R⟩⟩)))
