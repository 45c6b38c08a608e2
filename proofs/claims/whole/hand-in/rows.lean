section
theorem pk_us {f : Nat → Int32} {k : Nat} {x : Int32} : upd f k x k = x := if_pos rfl
theorem pk_un {f : Nat → Int32} {k j : Nat} {x : Int32} (h : j ≠ k) : upd f k x j = f j := if_neg h
theorem pk_sub {a b : Nat} (h : b ≤ a) : nI a - nI b = nI (a - b) := by
  obtain ⟨c, rfl⟩ : ∃ c, a = c + b := ⟨a - b, by omega⟩
  rw [← nI_add, Int32.add_sub_cancel, Nat.add_sub_cancel]
theorem pk_m1 (n : Nat) : nI (n + 1) + (-1) = nI n := by
  rw [← nI_1, Int32.add_assoc, show (1 : Int32) + (-1) = 0 from rfl, Int32.add_zero]
theorem pk_mul (a b : Nat) : nI a * nI b = nI (a * b) := (Int32.ofNat_mul a b).symm
theorem pk_div {a d : Nat} (ha : a < 2 ^ 31) (h0 : 0 < d) (hd : d < 2 ^ 31) : nI a / nI d = nI (a / d) := by
  apply Int32.toInt_inj.mp
  rw [lg_idiv_nonneg (by rw [nI_toInt ha]; omega) (by rw [nI_toInt hd]; omega), nI_toInt ha, nI_toInt hd, nI_toInt (Nat.lt_of_le_of_lt (Nat.div_le_self a d) ha)]
  first | rfl | exact (Int.natCast_ediv _ _).symm
theorem pk_rem {a d : Nat} (ha : a < 2 ^ 31) (h0 : 0 < d) (hd : d < 2 ^ 31) : nI a - nI a / nI d * nI d = nI (a % d) := by
  rw [pk_div ha h0 hd, pk_mul, pk_sub (Nat.div_mul_le_self a d)]
  exact congrArg nI (by have := Nat.div_add_mod' a d; omega)
theorem pk_ix (x : Int32) {n : Nat} (hn : n < 2 ^ 31) : x < 0 ∨ nI n ≤ x ∨ ∃ j : Nat, j < n ∧ x = nI j := by
  by_cases h : x < 0
  · exact Or.inl h
  · obtain ⟨j, hj, rfl⟩ := nI_of h
    by_cases h2 : j < n
    · exact Or.inr (Or.inr ⟨j, h2, rfl⟩)
    · exact Or.inr (Or.inl (nI_le (by omega) hj))
theorem pk_le {x y : Int32} {A B : Prop} (a b : Nat) (f : a ≤ b → A) (g : b < a → B) (hx : x = nI a := by rfl) (hy : y = nI b := by rfl) (ha : a < 2 ^ 31 := by omega) (hb : b < 2 ^ 31 := by omega) : (x ≤ y → A) ∧ (¬ x ≤ y → B) := by
  subst hx hy
  rw [nI_leI ha hb]
  exact ⟨f, fun z => g (by omega)⟩
theorem pk_lt {x y : Int32} {A B : Prop} (a b : Nat) (f : a < b → A) (g : b ≤ a → B) (hx : x = nI a := by rfl) (hy : y = nI b := by rfl) (ha : a < 2 ^ 31 := by omega) (hb : b < 2 ^ 31 := by omega) : (x < y → A) ∧ (¬ x < y → B) := by
  subst hx hy
  rw [nI_ltI ha hb]
  exact ⟨f, fun z => g (by omega)⟩
theorem pk_eq {x y : Int32} {A B : Prop} (a b : Nat) (f : a = b → A) (g : a ≠ b → B) (hx : x = nI a := by rfl) (hy : y = nI b := by rfl) (ha : a < 2 ^ 31 := by omega) (hb : b < 2 ^ 31 := by omega) : (x = y → A) ∧ (¬ x = y → B) := by
  subst hx hy
  rw [nI_eq ha hb]
  exact ⟨f, g⟩
theorem pk_tn {n : Nat} (h : n < 2 ^ 32) : (nI n).toBitVec.toNat = n := Nat.mod_eq_of_lt h
theorem pk_and (x : Int32) {m : Int32} (k : Nat) (hm : m.toBitVec.toNat = 2 ^ k - 1) : x &&& m = nI (x.toBitVec.toNat % 2 ^ k) := by
  apply Int32.toBitVec_inj.mp
  apply BitVec.eq_of_toNat_eq
  rw [Int32.toBitVec_and, BitVec.toNat_and, hm, Nat.and_two_pow_sub_one_eq_mod]
  show _ = (BitVec.ofNat 32 _).toNat
  rw [BitVec.toNat_ofNat]
  exact (Nat.mod_eq_of_lt (Nat.lt_of_le_of_lt (Nat.mod_le _ _) x.toBitVec.isLt)).symm
theorem pk_andN {n : Nat} (h : n < 2 ^ 32) {m : Int32} (k : Nat) (hm : m.toBitVec.toNat = 2 ^ k - 1) : nI n &&& m = nI (n % 2 ^ k) := by
  rw [pk_and _ k hm, pk_tn h]
theorem pk_shr (a s : Int32) (k : Nat) (hs : (s.toBitVec.smod 32).toNat = k) : (a >>> s).toInt = a.toInt >>> k := by
  show (a.toBitVec.sshiftRight (s.toBitVec.smod 32).toNat).toInt = _
  rw [hs, BitVec.toInt_sshiftRight]
  rfl
theorem pk_shrN {n : Nat} (h : n < 2 ^ 31) (s : Int32) (k : Nat) (hs : (s.toBitVec.smod 32).toNat = k) : nI n >>> s = nI (n / 2 ^ k) := by
  apply Int32.toInt_inj.mp
  have h2 : n / 2 ^ k ≤ n := Nat.div_le_self _ _
  rw [pk_shr _ _ k hs, nI_toInt h, nI_toInt (by omega), Int.shiftRight_eq_div_pow]
  rfl
/-- the cells of both: the same keys are there; where one is, both hold the same value; where none is, the component holds 0 -/
def pm_Q (th vl w : Nat → Int32) : Prop := ∀ j, (th j = 0 ∧ vl j = 0) ∨ (th j = 1 ∧ vl j = w j)
/-- the parents of both, from version 1 on: P, smaller than the child -/
def pm_P (C : Nat) (P : Nat → Nat) (pX pY : Nat → Int32) : Prop := ∀ j, 0 < j → j < C → P j < j ∧ pX j = nI (P j) ∧ pY j = nI (P j)
def i_Rel (_ : Nat) (u : SX) (v : SY) : Prop := ∃ (C : Nat) (th vl w pX pY : Nat → Int32) (P : Nat → Nat), 0 < C ∧ C ≤ 40 ∧ u = (nI C, th, vl, pX) ∧ v = (nI C, pY, th, w) ∧ pm_Q th vl w ∧ pm_P C P pX pY
theorem i_up {k : Nat} {u : SX} {v : SY} (h : i_Rel k u v) : i_Rel (k + 5) u v := h
theorem pm_10 : ¬ (1 : Int32) = 0 := by decide
theorem pm_nb {th vl w : Nat → Int32} (h : pm_Q th vl w) (j : Nat) : vp_nar .boolean (th j) = th j := by
  rcases h j with ⟨a, _⟩ | ⟨a, _⟩ <;> rw [a] <;> rfl
theorem pm_n1 : vp_nar .boolean 1 = 1 := rfl
theorem pm_n0 : vp_nar .boolean 0 = 0 := rfl
theorem i_vc0 : wpX_init (fun u => wpY_init (fun v => i_Rel 0 u v)) := by
  unfold wpX_init wpY_init
  intro p ep
  exact ⟨1, _, _, _, _, p, fun _ => 0, by decide, by decide, rfl, rfl, fun j => Or.inl ⟨rfl, rfl⟩, fun j h0 h1 => absurd h1 (by omega)⟩
theorem pm_Qcp {th vl w : Nat → Int32} (h : pm_Q th vl w) (a b : Nat) : pm_Q (upd th a (th b)) (upd vl a (vl b)) (upd w a (w b)) := by
  intro j
  by_cases e : j = a
  · subst e; rw [pk_us, pk_us, pk_us]; exact h b
  · rw [pk_un e, pk_un e, pk_un e]; exact h j
theorem pm_Qset {th vl w : Nat → Int32} (h : pm_Q th vl w) (a : Nat) (x : Int32) : pm_Q (upd th a 1) (upd vl a x) (upd w a x) := by
  intro j
  by_cases e : j = a
  · subst e; rw [pk_us, pk_us, pk_us]; exact Or.inr ⟨rfl, rfl⟩
  · rw [pk_un e, pk_un e, pk_un e]; exact h j
theorem pm_Qclr {th vl w : Nat → Int32} (h : pm_Q th vl w) (a : Nat) : pm_Q (upd th a 0) (upd vl a 0) w := by
  intro j
  by_cases e : j = a
  · subst e; rw [pk_us, pk_us]; exact Or.inl ⟨rfl, rfl⟩
  · rw [pk_un e, pk_un e]; exact h j
theorem pm_Pext {C v : Nat} {P : Nat → Nat} {pX pY : Nat → Int32} (h : pm_P C P pX pY) (hv : v < C) : pm_P (C + 1) (fun j => if j = C then v else P j) (upd pX C (nI v)) (upd pY C (nI v)) := by
  intro j h0 h1
  by_cases e : j = C
  · subst e; rw [pk_us, pk_us]; dsimp only; rw [if_pos rfl]; exact ⟨hv, rfl, rfl⟩
  · rw [pk_un e, pk_un e]; dsimp only; rw [if_neg e]; exact h j h0 (by omega)
theorem pm_xc (v k : Nat) : nI v * 32 + nI k = nI (32 * v + k) := by
  rw [show (32 : Int32) = nI 32 from rfl, pk_mul, nI_add, Nat.mul_comm]
theorem pm_yc (v k : Nat) : 32 * nI v + nI k = nI (32 * v + k) := by
  rw [show (32 : Int32) = nI 32 from rfl, pk_mul, nI_add]
theorem pm_in {v k : Nat} (hv : v < 40) (hk : k < 32) : vp_in (nI (32 * v + k)) 1280 := vp_in_nI (by omega) (by decide)
theorem pm_cl {v k : Nat} (hv : v < 40) (hk : k < 32) : (nI (32 * v + k)).toNatClampNeg = 32 * v + k := nI_clamp (by omega)
theorem pm_yin {v k : Nat} (hv : v < 40) (hk : k < 32) : vp_in (32 * nI v + nI k) 1280 := by rw [pm_yc]; exact pm_in hv hk
theorem pm_ycl {v k : Nat} (hv : v < 40) (hk : k < 32) : (32 * nI v + nI k).toNatClampNeg = 32 * v + k := by rw [pm_yc]; exact pm_cl hv hk
theorem pm_cell {post : Int32 → Prop} {v k : Nat} (h : post (nI (32 * v + k))) : wpX_cell post (nI v) (nI k) := by
  unfold wpX_cell; rw [pm_xc]; exact h
theorem pm_ver (x : Int32) {C : Nat} (hC : C ≤ 40) : (x < 0 ∨ nI C ≤ x) ∨ ∃ j : Nat, j < C ∧ x = nI j := by
  rcases pk_ix x (n := C) (by omega) with h | h | h
  · exact Or.inl (Or.inl h)
  · exact Or.inl (Or.inr h)
  · exact Or.inr h
theorem pm_key (x : Int32) : (x < 0 ∨ nI 32 ≤ x) ∨ ∃ j : Nat, j < 32 ∧ x = nI j := pm_ver x (C := 32) (by decide)
theorem pm_vX {post : Int32 → Prop} {C j : Nat} {th vl pX : Nat → Int32} (hC : C ≤ 40) (hj : j < C) (h : post 1) : wpX_isVersion post (nI C, th, vl, pX) (nI j) :=
  br_f (nI_pos (by omega)) (br_f (nI_ge hj (by omega)) h)
theorem pm_vY {post : Int32 → Prop} {C j : Nat} {pY th w : Nat → Int32} (hC : C ≤ 40) (hj : j < C) (h : post 0) : wpY_bad post (nI C, pY, th, w) (nI j) :=
  br_f (nI_pos (by omega)) (br_f (nI_ge hj (by omega)) (br_t (nI_le (b := 39) (by omega) (by decide)) h))
theorem pm_nX {post : Int32 → Prop} {C : Nat} {x : Int32} {th vl pX : Nat → Int32} (hx : x < 0 ∨ nI C ≤ x) (h : post 0) : wpX_isVersion post (nI C, th, vl, pX) x :=
  br_c (fun _ => h) (fun a => br_t (hx.resolve_left a) h)
theorem pm_nY {post : Int32 → Prop} {C : Nat} {x : Int32} {pY th w : Nat → Int32} (hx : x < 0 ∨ nI C ≤ x) (h : post 1) : wpY_bad post (nI C, pY, th, w) x :=
  br_c (fun _ => h) (fun a => br_t (hx.resolve_left a) h)
theorem pm_kX {post : Int32 → Prop} {j : Nat} (hj : j < 32) (h : post 1) : wpX_isKey post (nI j) :=
  br_f (nI_pos (by omega)) (br_f (nI_ge (b := 32) hj (by decide)) h)
theorem pm_kY {post : Int32 → Prop} {j : Nat} {u : SY} (hj : j < 32) (h : post 0) : wpY_badKey post u (nI j) :=
  br_f (nI_pos (by omega)) (br_t (nI_le (b := 31) (by omega) (by decide)) h)
theorem pm_nkX {post : Int32 → Prop} {x : Int32} (hx : x < 0 ∨ nI 32 ≤ x) (h : post 0) : wpX_isKey post x :=
  br_c (fun _ => h) (fun a => br_t (hx.resolve_left a) h)
theorem pm_32 {x : Int32} (h : nI 32 ≤ x) : ¬ x ≤ 31 := by
  intro h2
  exact absurd (Int32.le_trans h h2) (by decide)
theorem pm_nkY {post : Int32 → Prop} {x : Int32} {u : SY} (hx : x < 0 ∨ nI 32 ≤ x) (h : post 1) : wpY_badKey post u x :=
  br_c (fun _ => h) (fun a => br_f (pm_32 (hx.resolve_left a)) h)
theorem pm_cpX {post : SX → Prop} {c y z : Int32} {th vl w pX : Nat → Int32} {v k m l : Nat} (ey : y = nI k) (ez : z = nI l) (hQ : pm_Q th vl w) (hv : v < 40) (hk : k < 32) (hm : m < 40) (hl : l < 32) (h : post (c, upd th (32 * m + l) (th (32 * v + k)), upd vl (32 * m + l) (vl (32 * v + k)), pX)) : wpX_copyKey post (c, th, vl, pX) (nI v) y (nI m) z := by
  subst ey ez
  unfold wpX_copyKey
  refine pm_cell (pm_cell ⟨pm_in hv hk, pm_in hm hl, nm_r ?_ ⟨pm_in hv hk, pm_in hm hl, nm_r ?_ h⟩⟩)
  · rw [pm_cl hv hk, pm_cl hm hl, pm_nb hQ]
  · rw [pm_cl hv hk, pm_cl hm hl]
theorem pm_cpY {post : SY → Prop} {c y z : Int32} {th vl w pY : Nat → Int32} {v k m l : Nat} (ey : y = nI k) (ez : z = nI l) (hQ : pm_Q th vl w) (hv : v < 40) (hk : k < 32) (hm : m < 40) (hl : l < 32) (h : post (c, pY, upd th (32 * m + l) (th (32 * v + k)), upd w (32 * m + l) (w (32 * v + k)))) : wpY_copy post (c, pY, th, w) (nI v) y (nI m) z := by
  subst ey ez
  unfold wpY_copy
  refine ⟨pm_yin hv hk, pm_yin hm hl, nm_r ?_ ⟨pm_yin hv hk, pm_yin hm hl, nm_r ?_ h⟩⟩
  · rw [pm_ycl hv hk, pm_ycl hm hl, pm_nb hQ]
  · rw [pm_ycl hv hk, pm_ycl hm hl]
theorem pm_stX {post : SX → Prop} {c x y : Int32} {th vl pX : Nat → Int32} {v k : Nat} (ey : y = nI k) (hv : v < 40) (hk : k < 32) (h : post (c, upd th (32 * v + k) 1, upd vl (32 * v + k) x, pX)) : wpX_setKey post (c, th, vl, pX) (nI v) y x := by
  subst ey
  unfold wpX_setKey
  refine pm_cell ⟨pm_in hv hk, nm_r ?_ ⟨pm_in hv hk, nm_r ?_ h⟩⟩
  · rw [pm_cl hv hk, pm_n1]
  · rw [pm_cl hv hk]
theorem pm_stY {post : SY → Prop} {c x y : Int32} {th w pY : Nat → Int32} {v k : Nat} (ey : y = nI k) (hv : v < 40) (hk : k < 32) (h : post (c, pY, upd th (32 * v + k) 1, upd w (32 * v + k) x)) : wpY_give post (c, pY, th, w) (nI v) y x := by
  subst ey
  unfold wpY_give
  refine ⟨pm_yin hv hk, nm_r ?_ ⟨pm_yin hv hk, nm_r ?_ h⟩⟩
  · rw [pm_ycl hv hk, pm_n1]
  · rw [pm_ycl hv hk]
theorem pm_clX {post : SX → Prop} {c : Int32} {th vl pX : Nat → Int32} {v k : Nat} (hv : v < 40) (hk : k < 32) (h : post (c, upd th (32 * v + k) 0, upd vl (32 * v + k) 0, pX)) : wpX_clearKey post (c, th, vl, pX) (nI v) (nI k) := by
  unfold wpX_clearKey
  refine pm_cell ⟨pm_in hv hk, nm_r ?_ ⟨pm_in hv hk, nm_r ?_ h⟩⟩
  · rw [pm_cl hv hk, pm_n0]
  · rw [pm_cl hv hk]
theorem pm_rel {k C : Nat} {th vl w pX pY : Nat → Int32} {P : Nat → Nat} (h0 : 0 < C) (hC : C ≤ 40) (hQ : pm_Q th vl w) (hP : pm_P C P pX pY) : i_Rel k (nI C, th, vl, pX) (nI C, pY, th, w) := ⟨C, th, vl, w, pX, pY, P, h0, hC, rfl, rfl, hQ, hP⟩
theorem pm_fX {post : Int32 → Prop} {C : Nat} {th vl pX : Nat → Int32} (hC : C < 40) (h : post 0) : wpX_isFull post (nI C, th, vl, pX) := br_t (nI_lt (b := 40) hC (by decide)) h
theorem pm_FX {post : Int32 → Prop} {C : Nat} {th vl pX : Nat → Int32} (hC : ¬ C < 40) (hC2 : C ≤ 40) (h : post 1) : wpX_isFull post (nI C, th, vl, pX) := br_f (nI_nlt (b := 40) (by omega) (by omega)) h
theorem pm_FY {post : Int32 → SY → Prop} {C : Nat} {x : Int32} {th w pY : Nat → Int32} (hC : ¬ C < 40) (hC2 : C ≤ 40) (h : post (-3) (nI C, pY, th, w)) : wpY_make post (nI C, pY, th, w) x := br_f (nI_ge (a := 39) (by omega) (by omega)) h
end
section
theorem pm_mk {C v : Nat} (hC : C < 40) (hv : v < C) (pX pY : Nat → Int32) : ∀ (d j : Nat) (th vl w : Nat → Int32), j + d = 32 → pm_Q th vl w → ∃ th' vl' w' : Nat → Int32, pm_Q th' vl' w' ∧ (∀ post : Int32 → SX → Prop, post (nI C) (nI (C + 1), th', vl', upd pX C (nI v)) → wX_makeVersion_7 post (nI v) (nI C) (d + 1) (nI j) (nI C) th vl pX) ∧ (∀ post : Int32 → SY → Prop, post (nI C) (nI (C + 1), upd pY C (nI v), th', w') → wY_make_16 post (nI v) (nI C) (nI C) (d + 1) (nI j) pY th w) := by
  intro d
  induction d with
  | zero =>
    intro j th vl w hj hQ
    have h : (32 : Int32) ≤ nI j := nI_le (a := 32) (by omega) (by omega)
    refine ⟨th, vl, w, hQ, fun post hp => br_t h ⟨vp_in_nI hC (by decide), nm_r ?_ (nm_r (nI_1 C) hp)⟩, fun post hp => br_t h ⟨vp_in_nI hC (by decide), nm_r ?_ (nm_r (nI_1 C) hp)⟩⟩
    · rw [nI_clamp (by omega)]
    · rw [nI_clamp (by omega)]
  | succ d ih =>
    intro j th vl w hj hQ
    have h : ¬ (32 : Int32) ≤ nI j := nI_ge (b := 32) (by omega) (by decide)
    have hj2 : j < 32 := by omega
    have hv2 : v < 40 := by omega
    obtain ⟨th', vl', w', hQ', hX, hY⟩ := ih (j + 1) _ _ _ (by omega) (pm_Qcp hQ (32 * C + j) (32 * v + j))
    refine ⟨th', vl', w', hQ', fun post hp => br_f h (pm_cpX rfl rfl hQ hv2 hj2 hC hj2 (nm_r (nI_1 j) (hX post hp))), fun post hp => br_f h ⟨pm_yin hv2 hj2, pm_yin hC hj2, nm_r ?_ ⟨pm_yin hv2 hj2, pm_yin hC hj2, nm_r ?_ (nm_r (nI_1 j) (hY post hp))⟩⟩⟩
    · rw [pm_ycl hv2 hj2, pm_ycl hC hj2, pm_nb hQ]
    · rw [pm_ycl hv2 hj2, pm_ycl hC hj2]
theorem pm_mkv {C v : Nat} (hC : C < 40) (hv : v < C) {th vl w pX pY : Nat → Int32} {P : Nat → Nat} (hQ : pm_Q th vl w) (hP : pm_P C P pX pY) : ∃ (th' vl' w' pX' pY' : Nat → Int32) (P' : Nat → Nat), pm_Q th' vl' w' ∧ pm_P (C + 1) P' pX' pY' ∧ (∀ post : Int32 → SX → Prop, post (nI C) (nI (C + 1), th', vl', pX') → wpX_makeVersion post (nI C, th, vl, pX) (nI v)) ∧ (∀ post : Int32 → SY → Prop, post (nI C) (nI (C + 1), pY', th', w') → wpY_make post (nI C, pY, th, w) (nI v)) := by
  obtain ⟨th', vl', w', hQ', hX, hY⟩ := pm_mk hC hv pX pY 32 0 th vl w rfl hQ
  refine ⟨th', vl', w', _, _, _, hQ', pm_Pext hP hv, fun post hp => ?_, fun post hp => ?_⟩
  · unfold wpX_makeVersion
    exact ⟨_, hX post hp⟩
  · unfold wpY_make
    exact br_t (nI_le (b := 39) (by omega) (by decide)) ⟨_, hY post hp⟩
theorem i_vc_put {k : Nat} {u : SX} {v : SY} (I : i_Rel k u v) (hk : k + 5 ≤ 2560) (v1 : Int32) (v2 : Int32) (v3 : Int32) : wpX_put (fun r u' => wpY_put (fun r' v' => r' = r ∧ i_Rel (k + 5) u' v') v v1 v2 v3) u v1 v2 v3 := by
  obtain ⟨C, th, vl, w, pX, pY, P, h0, hC, rfl, rfl, hQ, hP⟩ := I
  unfold wpX_put
  dsimp only
  rcases pm_ver v1 hC with hb | ⟨j, hj, rfl⟩
  · refine pm_nX hb (br_t rfl ?_)
    unfold wpY_put
    exact pm_nY hb (br_f pm_10 ⟨rfl, pm_rel h0 hC hQ hP⟩)
  rcases pm_key v2 with hb | ⟨a, ha, rfl⟩
  · refine pm_vX hC hj (br_f pm_10 (pm_nkX hb (br_t rfl ?_)))
    unfold wpY_put
    exact pm_vY hC hj (br_t rfl (pm_nkY hb (br_f pm_10 ⟨rfl, pm_rel h0 hC hQ hP⟩)))
  by_cases hF : C < 40
  · obtain ⟨th', vl', w', pX', pY', P', hQ', hP', hX, hY⟩ := pm_mkv hF hj hQ hP
    refine pm_vX hC hj (br_f pm_10 (pm_kX ha (br_f pm_10 (pm_fX hF (br_t rfl (hX _ (pm_stX rfl hF ha ?_)))))))
    unfold wpY_put
    exact pm_vY hC hj (br_t rfl (pm_kY ha (br_t rfl (hY _ (br_f (nI_pos (by omega)) (pm_stY rfl hF ha ⟨rfl, pm_rel (by omega) (by omega) (pm_Qset hQ' _ _) hP'⟩))))))
  · refine pm_vX hC hj (br_f pm_10 (pm_kX ha (br_f pm_10 (pm_FX hF hC (br_f pm_10 ?_)))))
    unfold wpY_put
    exact pm_vY hC hj (br_t rfl (pm_kY ha (br_t rfl (pm_FY hF hC (br_t (by decide) ⟨rfl, pm_rel h0 hC hQ hP⟩)))))
theorem i_vc_remove {k : Nat} {u : SX} {v : SY} (I : i_Rel k u v) (hk : k + 5 ≤ 2560) (v1 : Int32) (v2 : Int32) : wpX_remove (fun r u' => wpY_remove (fun r' v' => r' = r ∧ i_Rel (k + 5) u' v') v v1 v2) u v1 v2 := by
  obtain ⟨C, th, vl, w, pX, pY, P, h0, hC, rfl, rfl, hQ, hP⟩ := I
  unfold wpX_remove
  dsimp only
  rcases pm_ver v1 hC with hb | ⟨j, hj, rfl⟩
  · refine pm_nX hb (br_t rfl ?_)
    unfold wpY_remove
    exact pm_nY hb (br_f pm_10 ⟨rfl, pm_rel h0 hC hQ hP⟩)
  rcases pm_key v2 with hb | ⟨a, ha, rfl⟩
  · refine pm_vX hC hj (br_f pm_10 (pm_nkX hb (br_t rfl ?_)))
    unfold wpY_remove
    exact pm_vY hC hj (br_t rfl (pm_nkY hb (br_f pm_10 ⟨rfl, pm_rel h0 hC hQ hP⟩)))
  by_cases hF : C < 40
  · obtain ⟨th', vl', w', pX', pY', P', hQ', hP', hX, hY⟩ := pm_mkv hF hj hQ hP
    refine pm_vX hC hj (br_f pm_10 (pm_kX ha (br_f pm_10 (pm_fX hF (br_t rfl (hX _ (pm_clX hF ha ?_)))))))
    unfold wpY_remove
    refine pm_vY hC hj (br_t rfl (pm_kY ha (br_t rfl (hY _ (br_f (nI_pos (by omega)) ⟨pm_yin hF ha, nm_r ?_ ⟨rfl, pm_rel (by omega) (by omega) (pm_Qclr hQ' _) hP'⟩⟩)))))
    rw [pm_ycl hF ha, pm_n0]
  · refine pm_vX hC hj (br_f pm_10 (pm_kX ha (br_f pm_10 (pm_FX hF hC (br_f pm_10 ?_)))))
    unfold wpY_remove
    exact pm_vY hC hj (br_t rfl (pm_kY ha (br_t rfl (pm_FY hF hC (br_t (by decide) ⟨rfl, pm_rel h0 hC hQ hP⟩)))))
theorem i_vc_exchange {k : Nat} {u : SX} {v : SY} (I : i_Rel k u v) (hk : k + 5 ≤ 2560) (v1 : Int32) (v2 : Int32) (v3 : Int32) : wpX_exchange (fun r u' => wpY_exchange (fun r' v' => r' = r ∧ i_Rel (k + 5) u' v') v v1 v2 v3) u v1 v2 v3 := by
  obtain ⟨C, th, vl, w, pX, pY, P, h0, hC, rfl, rfl, hQ, hP⟩ := I
  unfold wpX_exchange
  dsimp only
  rcases pm_ver v1 hC with hb | ⟨j, hj, rfl⟩
  · refine pm_nX hb (br_t rfl ?_)
    unfold wpY_exchange
    exact pm_nY hb (br_f pm_10 ⟨rfl, pm_rel h0 hC hQ hP⟩)
  rcases pm_key v2 with hb | ⟨a, ha, rfl⟩
  · refine pm_vX hC hj (br_f pm_10 (pm_nkX hb (br_t rfl ?_)))
    unfold wpY_exchange
    exact pm_vY hC hj (br_t rfl (pm_nkY hb (br_f pm_10 ⟨rfl, pm_rel h0 hC hQ hP⟩)))
  rcases pm_key v3 with hb | ⟨b, hb, rfl⟩
  · refine pm_vX hC hj (br_f pm_10 (pm_kX ha (br_f pm_10 (pm_nkX hb (br_t rfl ?_)))))
    unfold wpY_exchange
    exact pm_vY hC hj (br_t rfl (pm_kY ha (br_t rfl (pm_nkY hb (br_f pm_10 ⟨rfl, pm_rel h0 hC hQ hP⟩)))))
  by_cases hF : C < 40
  · obtain ⟨th', vl', w', pX', pY', P', hQ', hP', hX, hY⟩ := pm_mkv hF hj hQ hP
    have hj2 : j < 40 := by omega
    have hQ2 := pm_Qcp hQ' (32 * C + b) (32 * j + a)
    refine pm_vX hC hj (br_f pm_10 (pm_kX ha (br_f pm_10 (pm_kX hb (br_f pm_10 (pm_fX hF (br_t rfl (hX _ (pm_cpX rfl rfl hQ' hj2 ha hF hb (pm_cpX rfl rfl hQ2 hj2 hb hF ha ?_))))))))))
    unfold wpY_exchange
    exact pm_vY hC hj (br_t rfl (pm_kY ha (br_t rfl (pm_kY hb (br_t rfl (hY _ (br_f (nI_pos (by omega)) (pm_cpY rfl rfl hQ' hj2 ha hF hb (pm_cpY rfl rfl hQ2 hj2 hb hF ha ⟨rfl, pm_rel (by omega) (by omega) (pm_Qcp hQ2 _ _) hP'⟩)))))))))
  · refine pm_vX hC hj (br_f pm_10 (pm_kX ha (br_f pm_10 (pm_kX hb (br_f pm_10 (pm_FX hF hC (br_f pm_10 ?_)))))))
    unfold wpY_exchange
    exact pm_vY hC hj (br_t rfl (pm_kY ha (br_t rfl (pm_kY hb (br_t rfl (pm_FY hF hC (br_t (by decide) ⟨rfl, pm_rel h0 hC hQ hP⟩)))))))
end
section
theorem pm_shn {x : Int32} (h : x < 0) : x >>> ((4 : Int32) &&& 31) < 0 := by
  have h2 : x.toInt < 0 := by
    have h3 := Int32.lt_iff_toInt_lt.mp h
    rw [show (0 : Int32).toInt = 0 from by decide] at h3
    exact h3
  rw [Int32.lt_iff_toInt_lt, pk_shr x _ 4 (by decide), Int.shiftRight_eq_div_pow, show (0 : Int32).toInt = 0 from by decide, show ((2 ^ 4 : Nat) : Int) = 16 from rfl]
  omega
theorem pm_plX {post : Int32 → Prop} {x y z : Int32} (e1 : x >>> ((4 : Int32) &&& 31) = y) (e2 : x &&& 15 = z) (h : (y < 0 → post 0) ∧ (¬ y < 0 → ((z < 1 → post 0) ∧ (¬ z < 1 → ((8 < z → post 0) ∧ (¬ 8 < z → ((32 < y + z → post 0) ∧ (¬ 32 < y + z → post 1)))))))) : wpX_isPlan post x := by
  subst e1 e2
  unfold wpX_isPlan wpX_planFirst wpX_planCount
  exact h
theorem pm_plY {post : Int32 → Prop} {x y z : Int32} {u : SY} (e1 : x / 16 = y) (e2 : x - x / 16 * 16 = z) (h0 : ¬ x < 0) (h : (31 < y → post 1) ∧ (¬ 31 < y → ((z < 1 → post 1) ∧ (¬ z < 1 → ((z ≤ 8 → ((y + z ≤ 32 → post 0) ∧ (¬ y + z ≤ 32 → post 1))) ∧ (¬ z ≤ 8 → post 1)))))) : wpY_badPlan post u x := by
  have d : ¬ (16 : Int32) = 0 := by decide
  subst e1 e2
  obtain ⟨c, p, t, w⟩ := u
  unfold wpY_badPlan
  exact br_f h0 ⟨d, br_c h.1 fun a => ⟨d, br_c (h.2 a).1 fun b => ⟨d, br_c (fun c => ⟨d, d, ((h.2 a).2 b).1 c⟩) ((h.2 a).2 b).2⟩⟩⟩
theorem pm_plan (x : Int32) : ((∀ post : Int32 → Prop, post 0 → wpX_isPlan post x) ∧ (∀ (post : Int32 → Prop) (u : SY), post 1 → wpY_badPlan post u x)) ∨ ∃ f n : Nat, 1 ≤ n ∧ n ≤ 8 ∧ f + n ≤ 32 ∧ x >>> ((4 : Int32) &&& 31) = nI f ∧ x &&& 15 = nI n ∧ x / 16 = nI f ∧ x - x / 16 * 16 = nI n ∧ (∀ post : Int32 → Prop, post 1 → wpX_isPlan post x) ∧ (∀ (post : Int32 → Prop) (u : SY), post 0 → wpY_badPlan post u x) := by
  by_cases h : x < 0
  · refine Or.inl ⟨fun post hp => pm_plX rfl rfl (br_t (pm_shn h) hp), fun post u hp => ?_⟩
    obtain ⟨c, p, t, w⟩ := u
    unfold wpY_badPlan
    exact br_t h hp
  · obtain ⟨n, hn, rfl⟩ := nI_of h
    have e1 : nI n >>> ((4 : Int32) &&& 31) = nI (n / 16) := pk_shrN hn _ 4 (by decide)
    have e2 : nI n &&& 15 = nI (n % 16) := pk_andN (by omega) 4 (by decide)
    have e3 : nI n / 16 = nI (n / 16) := pk_div (d := 16) hn (by decide) (by decide)
    have e4 : nI n - nI n / 16 * 16 = nI (n % 16) := pk_rem (d := 16) hn (by decide) (by decide)
    have hf : n / 16 < 2 ^ 28 := by omega
    have hr : n % 16 < 16 := by omega
    generalize n / 16 = f at e1 e3 hf
    generalize n % 16 = m at e2 e4 hr
    by_cases g : 1 ≤ m ∧ m ≤ 8 ∧ f + m ≤ 32
    · obtain ⟨g1, g2, g3⟩ := g
      refine Or.inr ⟨f, m, g1, g2, g3, e1, e2, e3, e4, fun post hp => pm_plX e1 e2 ?_, fun post u hp => pm_plY e3 e4 h ?_⟩
      · exact br_f (nI_pos (by omega)) (br_f (nI_nlt (b := 1) g1 (by omega)) (br_f (nI_nlt (a := 8) g2 (by decide)) (br_f (by rw [nI_add]; exact nI_nlt (a := 32) g3 (by decide)) hp)))
      · exact br_f (nI_nlt (a := 31) (by omega) (by decide)) (br_f (nI_nlt (b := 1) g1 (by omega)) (br_t (nI_le (b := 8) g2 (by decide)) (br_t (by rw [nI_add]; exact nI_le (b := 32) g3 (by decide)) hp)))
    · refine Or.inl ⟨fun post hp => pm_plX e1 e2 (br_f (nI_pos (by omega)) ?_), fun post u hp => pm_plY e3 e4 h ?_⟩
      · exact pk_lt m 1 (fun _ => hp) fun a => pk_lt 8 m (fun _ => hp) fun b => pk_lt 32 (f + m) (fun _ => hp) (fun c => absurd ⟨a, b, c⟩ g) (hy := nI_add f m)
      · exact pk_lt 31 f (fun _ => hp) fun _ => pk_lt m 1 (fun _ => hp) fun a => pk_le m 8 (fun b => pk_le (f + m) 32 (fun c => absurd ⟨a, b, c⟩ g) (fun _ => hp) (hx := nI_add f m)) (fun _ => hp)
theorem pm_fl {C f n : Nat} (hC : C < 40) (hn : n ≤ 8) (hfn : f + n ≤ 32) {x : Int32} (val st c : Int32) (pX pY : Nat → Int32) (ed : x / 16 = nI f) (er : x - x / 16 * 16 = nI n) : ∀ (d j : Nat) (th vl w : Nat → Int32), j + d = n → pm_Q th vl w → ∃ th' vl' w' : Nat → Int32, pm_Q th' vl' w' ∧ (∀ post : Int32 → SX → Prop, post (nI C) (c, th', vl', pX) → wX_fill_52 post val st (nI C) (nI f) (nI n) (d + 1) (nI j) c th vl pX) ∧ (∀ post : Int32 → SY → Prop, post (nI C) (c, pY, th', w') → wY_fill_31 post x val st (nI C) (d + 1) (nI j) c pY th w) := by
  have d16 : ¬ (16 : Int32) = 0 := by decide
  intro d
  induction d with
  | zero =>
    intro j th vl w hj hQ
    have h : nI n ≤ nI j := nI_le (by omega) (by omega)
    exact ⟨th, vl, w, hQ, fun post hp => br_t h hp, fun post hp => ⟨d16, br_t (by rw [er]; exact h) hp⟩⟩
  | succ d ih =>
    intro j th vl w hj hQ
    have h : ¬ nI n ≤ nI j := nI_ge (by omega) (by omega)
    have hj2 : f + j < 32 := by omega
    obtain ⟨th', vl', w', hQ', hX, hY⟩ := ih (j + 1) _ _ _ (by omega) (pm_Qset hQ (32 * C + (f + j)) (val + nI j * st))
    exact ⟨th', vl', w', hQ', fun post hp => br_f h (pm_stX (nI_add f j) hC hj2 (nm_r (nI_1 j) (hX post hp))), fun post hp => ⟨d16, br_f (by rw [er]; exact h) (br_f (nI_pos (by omega)) ⟨d16, pm_stY (by rw [ed, nI_add]) hC hj2 (nm_r (nI_1 j) (hY post hp))⟩)⟩⟩
theorem pm_gr {C f n m : Nat} (hC : C < 40) (hm : m < 40) (hn : n ≤ 8) (hfn : f + n ≤ 32) {x : Int32} (c : Int32) (pX pY : Nat → Int32) (ed : x / 16 = nI f) (er : x - x / 16 * 16 = nI n) : ∀ (d j : Nat) (th vl w : Nat → Int32), j + d = n → pm_Q th vl w → ∃ th' vl' w' : Nat → Int32, pm_Q th' vl' w' ∧ (∀ post : Int32 → SX → Prop, post (nI C) (c, th', vl', pX) → wX_graft_61 post (nI m) (nI C) (nI f) (nI n) (d + 1) (nI (f + j)) c th vl pX) ∧ (∀ post : Int32 → SY → Prop, post (nI C) (c, pY, th', w') → wY_graft_39 post (nI m) x (nI C) (d + 1) (nI j) c pY th w) := by
  have d16 : ¬ (16 : Int32) = 0 := by decide
  intro d
  induction d with
  | zero =>
    intro j th vl w hj hQ
    have h : nI n ≤ nI j := nI_le (by omega) (by omega)
    exact ⟨th, vl, w, hQ, fun post hp => br_t (by rw [nI_add]; exact nI_le (by omega) (by omega)) hp, fun post hp => ⟨d16, br_t (by rw [er]; exact h) hp⟩⟩
  | succ d ih =>
    intro j th vl w hj hQ
    have h : ¬ nI n ≤ nI j := nI_ge (by omega) (by omega)
    have hj2 : f + j < 32 := by omega
    obtain ⟨th', vl', w', hQ', hX, hY⟩ := ih (j + 1) _ _ _ (by omega) (pm_Qcp hQ (32 * C + (f + j)) (32 * m + (f + j)))
    exact ⟨th', vl', w', hQ', fun post hp => br_f (by rw [nI_add]; exact nI_ge (by omega) (by omega)) (pm_cpX rfl rfl hQ hm hj2 hC hj2 (nm_r (nI_1 (f + j)) (hX post hp))), fun post hp => ⟨d16, br_f (by rw [er]; exact h) (br_f (nI_pos (by omega)) ⟨d16, d16, pm_cpY (by rw [ed, nI_add]) (by rw [ed, nI_add]) hQ hm hj2 hC hj2 (nm_r (nI_1 j) (hY post hp))⟩)⟩⟩
theorem i_vc_fill {k : Nat} {u : SX} {v : SY} (I : i_Rel k u v) (hk : k + 5 ≤ 2560) (v1 : Int32) (v2 : Int32) (v3 : Int32) (v4 : Int32) : wpX_fill (fun r u' => wpY_fill (fun r' v' => r' = r ∧ i_Rel (k + 5) u' v') v v1 v2 v3 v4) u v1 v2 v3 v4 := by
  have d16 : ¬ (16 : Int32) = 0 := by decide
  obtain ⟨C, th, vl, w, pX, pY, P, h0, hC, rfl, rfl, hQ, hP⟩ := I
  unfold wpX_fill
  rcases pm_ver v1 hC with hb | ⟨j, hj, rfl⟩
  · refine pm_nX hb (br_t rfl ?_)
    unfold wpY_fill
    exact pm_nY hb (br_f pm_10 ⟨rfl, pm_rel h0 hC hQ hP⟩)
  rcases pm_plan v2 with ⟨bX, bY⟩ | ⟨f, n, n1, n8, hfn, e1, e2, e3, e4, gX, gY⟩
  · refine pm_vX hC hj (br_f pm_10 (bX _ (br_t rfl ?_)))
    unfold wpY_fill
    exact pm_vY hC hj (br_t rfl (bY _ _ (br_f pm_10 ⟨rfl, pm_rel h0 hC hQ hP⟩)))
  by_cases hF : C < 40
  · obtain ⟨th', vl', w', pX', pY', P', hQ', hP', hX, hY⟩ := pm_mkv hF hj hQ hP
    obtain ⟨th2, vl2, w2, hQ2, hX2, hY2⟩ := pm_fl hF n8 hfn v3 v4 (nI (C + 1)) pX' pY' e3 e4 n 0 th' vl' w' (by omega) hQ'
    refine pm_vX hC hj (br_f pm_10 (gX _ (br_f pm_10 (pm_fX hF (br_t rfl (hX _ ?_))))))
    unfold wpX_planFirst wpX_planCount
    rw [e1, e2]
    refine ⟨_, hX2 _ ?_⟩
    unfold wpY_fill
    exact pm_vY hC hj (br_t rfl (gY _ _ (br_t rfl (hY _ ⟨_, hY2 _ ⟨rfl, pm_rel (by omega) (by omega) hQ2 hP'⟩⟩))))
  · refine pm_vX hC hj (br_f pm_10 (gX _ (br_f pm_10 (pm_FX hF hC (br_f pm_10 ?_)))))
    unfold wpY_fill
    exact pm_vY hC hj (br_t rfl (gY _ _ (br_t rfl (pm_FY hF hC ⟨1, d16, br_f (by rw [e4]; exact nI_nle (by omega) (by omega)) (br_t (by decide) ⟨rfl, pm_rel h0 hC hQ hP⟩)⟩))))
theorem i_vc_graft {k : Nat} {u : SX} {v : SY} (I : i_Rel k u v) (hk : k + 5 ≤ 2560) (v1 : Int32) (v2 : Int32) (v3 : Int32) : wpX_graft (fun r u' => wpY_graft (fun r' v' => r' = r ∧ i_Rel (k + 5) u' v') v v1 v2 v3) u v1 v2 v3 := by
  have d16 : ¬ (16 : Int32) = 0 := by decide
  obtain ⟨C, th, vl, w, pX, pY, P, h0, hC, rfl, rfl, hQ, hP⟩ := I
  unfold wpX_graft
  rcases pm_ver v1 hC with hb | ⟨j, hj, rfl⟩
  · refine pm_nX hb (br_t rfl ?_)
    unfold wpY_graft
    exact pm_nY hb (br_f pm_10 ⟨rfl, pm_rel h0 hC hQ hP⟩)
  rcases pm_ver v2 hC with hb | ⟨m, hm, rfl⟩
  · refine pm_vX hC hj (br_f pm_10 (pm_nX hb (br_t rfl ?_)))
    unfold wpY_graft
    exact pm_vY hC hj (br_t rfl (pm_nY hb (br_f pm_10 ⟨rfl, pm_rel h0 hC hQ hP⟩)))
  rcases pm_plan v3 with ⟨bX, bY⟩ | ⟨f, n, n1, n8, hfn, e1, e2, e3, e4, gX, gY⟩
  · refine pm_vX hC hj (br_f pm_10 (pm_vX hC hm (br_f pm_10 (bX _ (br_t rfl ?_)))))
    unfold wpY_graft
    exact pm_vY hC hj (br_t rfl (pm_vY hC hm (br_t rfl (bY _ _ (br_f pm_10 ⟨rfl, pm_rel h0 hC hQ hP⟩)))))
  by_cases hF : C < 40
  · obtain ⟨th', vl', w', pX', pY', P', hQ', hP', hX, hY⟩ := pm_mkv hF hj hQ hP
    obtain ⟨th2, vl2, w2, hQ2, hX2, hY2⟩ := pm_gr hF (show m < 40 by omega) n8 hfn (nI (C + 1)) pX' pY' e3 e4 n 0 th' vl' w' (by omega) hQ'
    refine pm_vX hC hj (br_f pm_10 (pm_vX hC hm (br_f pm_10 (gX _ (br_f pm_10 (pm_fX hF (br_t rfl (hX _ ?_))))))))
    unfold wpX_planFirst wpX_planCount
    rw [e1, e2]
    refine ⟨_, hX2 _ ?_⟩
    unfold wpY_graft
    exact pm_vY hC hj (br_t rfl (pm_vY hC hm (br_t rfl (gY _ _ (br_t rfl (hY _ ⟨_, hY2 _ ⟨rfl, pm_rel (by omega) (by omega) hQ2 hP'⟩⟩))))))
  · refine pm_vX hC hj (br_f pm_10 (pm_vX hC hm (br_f pm_10 (gX _ (br_f pm_10 (pm_FX hF hC (br_f pm_10 ?_)))))))
    unfold wpY_graft
    exact pm_vY hC hj (br_t rfl (pm_vY hC hm (br_t rfl (gY _ _ (br_t rfl (pm_FY hF hC ⟨1, d16, br_f (by rw [e4]; exact nI_nle (by omega) (by omega)) (br_t (by decide) ⟨rfl, pm_rel h0 hC hQ hP⟩)⟩))))))
end
section
theorem i_vc_versions {k : Nat} {u : SX} {v : SY} (I : i_Rel k u v) (hk : k + 5 ≤ 2560) : wpX_versions (fun r => wpY_versions (fun r' => r' = r ∧ i_Rel (k + 5) u v) v) u := by
  obtain ⟨C, th, vl, w, pX, pY, P, h0, hC, rfl, rfl, hQ, hP⟩ := I
  unfold wpX_versions wpY_versions
  exact ⟨rfl, pm_rel h0 hC hQ hP⟩
theorem i_vc_parent {k : Nat} {u : SX} {v : SY} (I : i_Rel k u v) (hk : k + 5 ≤ 2560) (v1 : Int32) : wpX_parent (fun r => wpY_parent (fun r' => r' = r ∧ i_Rel (k + 5) u v) v v1) u v1 := by
  obtain ⟨C, th, vl, w, pX, pY, P, h0, hC, rfl, rfl, hQ, hP⟩ := I
  have R := pm_rel (k := k + 5) h0 hC hQ hP
  unfold wpX_parent
  rcases pm_ver v1 hC with hb | ⟨j, hj, rfl⟩
  · refine pm_nX hb (br_t rfl ?_)
    unfold wpY_parent
    exact pm_nY hb (br_f pm_10 ⟨rfl, R⟩)
  by_cases z : j = 0
  · subst z
    refine pm_vX hC hj (br_f pm_10 (br_t rfl ?_))
    unfold wpY_parent
    exact pm_vY hC hj (br_t rfl (br_t rfl ⟨rfl, R⟩))
  · have hz : ¬ nI j = 0 := nI_ne0 (by omega) (by omega)
    have hi : vp_in (nI j) 40 := vp_in_nI (by omega) (by decide)
    obtain ⟨_, e1, e2⟩ := hP j (by omega) hj
    refine pm_vX hC hj (br_f pm_10 (br_f hz ⟨hi, ?_⟩))
    unfold wpY_parent
    refine pm_vY hC hj (br_t rfl (br_f hz ⟨hi, ?_, R⟩))
    rw [nI_clamp (by omega), e1, e2]
theorem i_vc_has {k : Nat} {u : SX} {v : SY} (I : i_Rel k u v) (hk : k + 5 ≤ 2560) (v1 : Int32) (v2 : Int32) : wpX_has (fun r => wpY_has (fun r' => r' = r ∧ i_Rel (k + 5) u v) v v1 v2) u v1 v2 := by
  obtain ⟨C, th, vl, w, pX, pY, P, h0, hC, rfl, rfl, hQ, hP⟩ := I
  have R := pm_rel (k := k + 5) h0 hC hQ hP
  unfold wpX_has
  rcases pm_ver v1 hC with hb | ⟨j, hj, rfl⟩
  · refine pm_nX hb (br_t rfl ?_)
    unfold wpY_has
    exact pm_nY hb (br_f pm_10 ⟨rfl, R⟩)
  rcases pm_key v2 with hb | ⟨a, ha, rfl⟩
  · refine pm_vX hC hj (br_f pm_10 (pm_nkX hb (br_t rfl ?_)))
    unfold wpY_has
    exact pm_vY hC hj (br_t rfl (pm_nkY hb (br_f pm_10 ⟨rfl, R⟩)))
  have hj2 : j < 40 := by omega
  by_cases z : th (32 * j + a) = 0
  · refine pm_vX hC hj (br_f pm_10 (pm_kX ha (br_f pm_10 (pm_cell ⟨pm_in hj2 ha, br_t (by rw [pm_cl hj2 ha]; exact z) ?_⟩))))
    unfold wpY_has
    exact pm_vY hC hj (br_t rfl (pm_kY ha (br_t rfl ⟨pm_yin hj2 ha, br_t (by rw [pm_ycl hj2 ha]; exact z) ⟨rfl, R⟩⟩)))
  · refine pm_vX hC hj (br_f pm_10 (pm_kX ha (br_f pm_10 (pm_cell ⟨pm_in hj2 ha, br_f (by rw [pm_cl hj2 ha]; exact z) ?_⟩))))
    unfold wpY_has
    exact pm_vY hC hj (br_t rfl (pm_kY ha (br_t rfl ⟨pm_yin hj2 ha, br_f (by rw [pm_ycl hj2 ha]; exact z) ⟨rfl, R⟩⟩)))
theorem i_vc_get {k : Nat} {u : SX} {v : SY} (I : i_Rel k u v) (hk : k + 5 ≤ 2560) (v1 : Int32) (v2 : Int32) : wpX_get (fun r => wpY_get (fun r' => r' = r ∧ i_Rel (k + 5) u v) v v1 v2) u v1 v2 := by
  obtain ⟨C, th, vl, w, pX, pY, P, h0, hC, rfl, rfl, hQ, hP⟩ := I
  have R := pm_rel (k := k + 5) h0 hC hQ hP
  unfold wpX_get
  rcases pm_ver v1 hC with hb | ⟨j, hj, rfl⟩
  · refine pm_nX hb (br_t rfl ?_)
    unfold wpY_get
    exact pm_nY hb (br_f pm_10 ⟨rfl, R⟩)
  rcases pm_key v2 with hb | ⟨a, ha, rfl⟩
  · refine pm_vX hC hj (br_f pm_10 (pm_nkX hb (br_t rfl ?_)))
    unfold wpY_get
    exact pm_vY hC hj (br_t rfl (pm_nkY hb (br_f pm_10 ⟨rfl, R⟩)))
  have hj2 : j < 40 := by omega
  refine pm_vX hC hj (br_f pm_10 (pm_kX ha (br_f pm_10 (pm_cell ⟨pm_in hj2 ha, ?_⟩))))
  unfold wpY_get
  rcases hQ (32 * j + a) with ⟨z, e⟩ | ⟨z, e⟩
  · refine pm_vY hC hj (br_t rfl (pm_kY ha (br_t rfl ⟨pm_yin hj2 ha, br_t (by rw [pm_ycl hj2 ha]; exact z) ⟨?_, R⟩⟩)))
    rw [pm_cl hj2 ha, e]
  · refine pm_vY hC hj (br_t rfl (pm_kY ha (br_t rfl ⟨pm_yin hj2 ha, br_f (by rw [pm_ycl hj2 ha, z]; exact pm_10) ⟨pm_yin hj2 ha, ?_, R⟩⟩)))
    rw [pm_cl hj2 ha, pm_ycl hj2 ha, e]
theorem pm_sz {v : Nat} (hv : v < 40) (c : Int32) (th vl w pX pY : Nat → Int32) : ∀ (d j : Nat) (s : Int32), j + d = 32 → ∃ r : Int32, (∀ post : Int32 → Prop, post r → wX_size_14 post (nI v) c th vl pX (d + 1) s (nI j)) ∧ (∀ post : Int32 → Prop, post r → wY_size_14 post (nI v) c pY th w (d + 1) s (nI j)) := by
  intro d
  induction d with
  | zero =>
    intro j s hj
    have h : (32 : Int32) ≤ nI j := nI_le (a := 32) (by omega) (by omega)
    exact ⟨s, fun post hp => br_t h hp, fun post hp => br_t h hp⟩
  | succ d ih =>
    intro j s hj
    have h : ¬ (32 : Int32) ≤ nI j := nI_ge (b := 32) (by omega) (by decide)
    have hj2 : j < 32 := by omega
    by_cases z : th (32 * v + j) = 0
    · obtain ⟨r, hX, hY⟩ := ih (j + 1) s (by omega)
      exact ⟨r, fun post hp => br_f h (pm_cell ⟨pm_in hv hj2, br_t (by rw [pm_cl hv hj2]; exact z) (nm_r (nI_1 j) (hX post hp))⟩), fun post hp => br_f h ⟨pm_yin hv hj2, br_t (by rw [pm_ycl hv hj2]; exact z) (nm_r (nI_1 j) (hY post hp))⟩⟩
    · obtain ⟨r, hX, hY⟩ := ih (j + 1) (s + 1) (by omega)
      exact ⟨r, fun post hp => br_f h (pm_cell ⟨pm_in hv hj2, br_f (by rw [pm_cl hv hj2]; exact z) (nm_e (nm_r (nI_1 j) (hX post hp)))⟩), fun post hp => br_f h ⟨pm_yin hv hj2, br_f (by rw [pm_ycl hv hj2]; exact z) (nm_e (nm_r (nI_1 j) (hY post hp)))⟩⟩
theorem i_vc_size {k : Nat} {u : SX} {v : SY} (I : i_Rel k u v) (hk : k + 5 ≤ 2560) (v1 : Int32) : wpX_size (fun r => wpY_size (fun r' => r' = r ∧ i_Rel (k + 5) u v) v v1) u v1 := by
  obtain ⟨C, th, vl, w, pX, pY, P, h0, hC, rfl, rfl, hQ, hP⟩ := I
  have R := pm_rel (k := k + 5) h0 hC hQ hP
  unfold wpX_size
  rcases pm_ver v1 hC with hb | ⟨j, hj, rfl⟩
  · refine pm_nX hb (br_t rfl ?_)
    unfold wpY_size
    exact pm_nY hb (br_f pm_10 ⟨rfl, R⟩)
  obtain ⟨r, hX, hY⟩ := pm_sz (show j < 40 by omega) (nI C) th vl w pX pY 32 0 0 rfl
  refine pm_vX hC hj (br_f pm_10 ⟨_, hX _ ?_⟩)
  unfold wpY_size
  exact pm_vY hC hj (br_t rfl ⟨_, hY _ ⟨rfl, R⟩⟩)
theorem pm_nx {v : Nat} (hv : v < 40) (x c : Int32) (th vl w pX pY : Nat → Int32) : ∀ (d j : Nat), j + d = 32 → ∃ r : Int32, (∀ post : Int32 → Prop, post r → wX_next_12 post (nI v) x c th vl pX (d + 1) (nI j)) ∧ (∀ post : Int32 → Prop, post r → wY_next_12 post (nI v) x c pY th w (d + 1) (nI j)) := by
  intro d
  induction d with
  | zero =>
    intro j hj
    have h : (32 : Int32) ≤ nI j := nI_le (a := 32) (by omega) (by omega)
    exact ⟨-2, fun post hp => br_t h hp, fun post hp => br_t h hp⟩
  | succ d ih =>
    intro j hj
    have h : ¬ (32 : Int32) ≤ nI j := nI_ge (b := 32) (by omega) (by decide)
    have hj2 : j < 32 := by omega
    obtain ⟨r, hX, hY⟩ := ih (j + 1) (by omega)
    by_cases q : nI j < x
    · exact ⟨r, fun post hp => br_f h (br_t q (nm_r (nI_1 j) (hX post hp))), fun post hp => br_f h (br_t q (nm_r (nI_1 j) (hY post hp)))⟩
    by_cases z : th (32 * v + j) = 0
    · exact ⟨r, fun post hp => br_f h (br_f q (pm_cell ⟨pm_in hv hj2, br_t (by rw [pm_cl hv hj2]; exact z) (nm_r (nI_1 j) (hX post hp))⟩)), fun post hp => br_f h (br_f q ⟨pm_yin hv hj2, br_t (by rw [pm_ycl hv hj2]; exact z) (nm_r (nI_1 j) (hY post hp))⟩)⟩
    · exact ⟨nI j, fun post hp => br_f h (br_f q (pm_cell ⟨pm_in hv hj2, br_f (by rw [pm_cl hv hj2]; exact z) hp⟩)), fun post hp => br_f h (br_f q ⟨pm_yin hv hj2, br_f (by rw [pm_ycl hv hj2]; exact z) hp⟩)⟩
theorem i_vc_next {k : Nat} {u : SX} {v : SY} (I : i_Rel k u v) (hk : k + 5 ≤ 2560) (v1 : Int32) (v2 : Int32) : wpX_next (fun r => wpY_next (fun r' => r' = r ∧ i_Rel (k + 5) u v) v v1 v2) u v1 v2 := by
  obtain ⟨C, th, vl, w, pX, pY, P, h0, hC, rfl, rfl, hQ, hP⟩ := I
  have R := pm_rel (k := k + 5) h0 hC hQ hP
  unfold wpX_next
  rcases pm_ver v1 hC with hb | ⟨j, hj, rfl⟩
  · refine pm_nX hb (br_t rfl ?_)
    unfold wpY_next
    exact pm_nY hb (br_f pm_10 ⟨rfl, R⟩)
  obtain ⟨r, hX, hY⟩ := pm_nx (show j < 40 by omega) v2 (nI C) th vl w pX pY 32 0 rfl
  refine pm_vX hC hj (br_f pm_10 ⟨_, hX _ ?_⟩)
  unfold wpY_next
  exact pm_vY hC hj (br_t rfl ⟨_, hY _ ⟨rfl, R⟩⟩)
/-- a counter that runs down to -1 -/
def pm_dn : Nat → Int32
  | 0 => -1
  | d + 1 => nI d
theorem pm_dn1 (d : Nat) : nI d + (-1) = pm_dn d := by
  cases d with
  | zero => decide
  | succ d => exact pk_m1 d
theorem pm_pv {v : Nat} (hv : v < 40) (x c : Int32) (th vl w pX pY : Nat → Int32) : ∀ (d : Nat), d ≤ 32 → ∃ r : Int32, (∀ post : Int32 → Prop, post r → wX_previous_13 post (nI v) x c th vl pX (d + 1) (pm_dn d)) ∧ (∀ post : Int32 → Prop, post r → wY_previous_13 post (nI v) x c pY th w (d + 1) (pm_dn d)) := by
  intro d
  induction d with
  | zero =>
    intro _
    have h : pm_dn 0 < 0 := by decide
    exact ⟨-2, fun post hp => br_t h hp, fun post hp => br_t h hp⟩
  | succ d ih =>
    intro hd
    have h : ¬ nI d < 0 := nI_pos (by omega)
    have hj2 : d < 32 := by omega
    obtain ⟨r, hX, hY⟩ := ih (by omega)
    show ∃ r : Int32, (∀ post : Int32 → Prop, post r → wX_previous_13 post (nI v) x c th vl pX (d + 1 + 1) (nI d)) ∧ (∀ post : Int32 → Prop, post r → wY_previous_13 post (nI v) x c pY th w (d + 1 + 1) (nI d))
    by_cases q : x < nI d
    · exact ⟨r, fun post hp => br_f h (br_t q (nm_r (pm_dn1 d) (hX post hp))), fun post hp => br_f h (br_t q (nm_r (pm_dn1 d) (hY post hp)))⟩
    by_cases z : th (32 * v + d) = 0
    · exact ⟨r, fun post hp => br_f h (br_f q (pm_cell ⟨pm_in hv hj2, br_t (by rw [pm_cl hv hj2]; exact z) (nm_r (pm_dn1 d) (hX post hp))⟩)), fun post hp => br_f h (br_f q ⟨pm_yin hv hj2, br_t (by rw [pm_ycl hv hj2]; exact z) (nm_r (pm_dn1 d) (hY post hp))⟩)⟩
    · exact ⟨nI d, fun post hp => br_f h (br_f q (pm_cell ⟨pm_in hv hj2, br_f (by rw [pm_cl hv hj2]; exact z) hp⟩)), fun post hp => br_f h (br_f q ⟨pm_yin hv hj2, br_f (by rw [pm_ycl hv hj2]; exact z) hp⟩)⟩
theorem i_vc_previous {k : Nat} {u : SX} {v : SY} (I : i_Rel k u v) (hk : k + 5 ≤ 2560) (v1 : Int32) (v2 : Int32) : wpX_previous (fun r => wpY_previous (fun r' => r' = r ∧ i_Rel (k + 5) u v) v v1 v2) u v1 v2 := by
  obtain ⟨C, th, vl, w, pX, pY, P, h0, hC, rfl, rfl, hQ, hP⟩ := I
  have R := pm_rel (k := k + 5) h0 hC hQ hP
  unfold wpX_previous
  rcases pm_ver v1 hC with hb | ⟨j, hj, rfl⟩
  · refine pm_nX hb (br_t rfl ?_)
    unfold wpY_previous
    exact pm_nY hb (br_f pm_10 ⟨rfl, R⟩)
  obtain ⟨r, hX, hY⟩ := pm_pv (show j < 40 by omega) v2 (nI C) th vl w pX pY 32 (by decide)
  refine pm_vX hC hj (br_f pm_10 ⟨_, hX _ ?_⟩)
  unfold wpY_previous
  exact pm_vY hC hj (br_t rfl ⟨_, hY _ ⟨rfl, R⟩⟩)
theorem pm_sl {v : Nat} (hv : v < 40) (x c : Int32) (th vl w pX pY : Nat → Int32) : ∀ (d j : Nat) (s : Int32), j + d = 32 → ∃ r : Int32, (∀ post : Int32 → Prop, post r → wX_select_15 post (nI v) x c th vl pX (d + 1) s (nI j)) ∧ (∀ post : Int32 → Prop, post r → wY_select_15 post (nI v) x c pY th w (d + 1) s (nI j)) := by
  intro d
  induction d with
  | zero =>
    intro j s hj
    have h : (32 : Int32) ≤ nI j := nI_le (a := 32) (by omega) (by omega)
    exact ⟨-2, fun post hp => br_t h hp, fun post hp => br_t h hp⟩
  | succ d ih =>
    intro j s hj
    have h : ¬ (32 : Int32) ≤ nI j := nI_ge (b := 32) (by omega) (by decide)
    have hj2 : j < 32 := by omega
    by_cases z : th (32 * v + j) = 0
    · obtain ⟨r, hX, hY⟩ := ih (j + 1) s (by omega)
      exact ⟨r, fun post hp => br_f h (pm_cell ⟨pm_in hv hj2, br_t (by rw [pm_cl hv hj2]; exact z) (nm_r (nI_1 j) (hX post hp))⟩), fun post hp => br_f h ⟨pm_yin hv hj2, br_t (by rw [pm_ycl hv hj2]; exact z) (nm_r (nI_1 j) (hY post hp))⟩⟩
    by_cases q : s = x
    · exact ⟨nI j, fun post hp => br_f h (pm_cell ⟨pm_in hv hj2, br_f (by rw [pm_cl hv hj2]; exact z) (br_t q hp)⟩), fun post hp => br_f h ⟨pm_yin hv hj2, br_f (by rw [pm_ycl hv hj2]; exact z) (br_t q hp)⟩⟩
    · obtain ⟨r, hX, hY⟩ := ih (j + 1) (s + 1) (by omega)
      exact ⟨r, fun post hp => br_f h (pm_cell ⟨pm_in hv hj2, br_f (by rw [pm_cl hv hj2]; exact z) (br_f q (nm_e (nm_r (nI_1 j) (hX post hp))))⟩), fun post hp => br_f h ⟨pm_yin hv hj2, br_f (by rw [pm_ycl hv hj2]; exact z) (br_f q (nm_e (nm_r (nI_1 j) (hY post hp))))⟩⟩
theorem i_vc_select {k : Nat} {u : SX} {v : SY} (I : i_Rel k u v) (hk : k + 5 ≤ 2560) (v1 : Int32) (v2 : Int32) : wpX_select (fun r => wpY_select (fun r' => r' = r ∧ i_Rel (k + 5) u v) v v1 v2) u v1 v2 := by
  obtain ⟨C, th, vl, w, pX, pY, P, h0, hC, rfl, rfl, hQ, hP⟩ := I
  have R := pm_rel (k := k + 5) h0 hC hQ hP
  unfold wpX_select
  rcases pm_ver v1 hC with hb | ⟨j, hj, rfl⟩
  · refine pm_nX hb (br_t rfl ?_)
    unfold wpY_select
    exact pm_nY hb (br_f pm_10 ⟨rfl, R⟩)
  obtain ⟨r, hX, hY⟩ := pm_sl (show j < 40 by omega) v2 (nI C) th vl w pX pY 32 0 0 rfl
  refine pm_vX hC hj (br_f pm_10 ⟨_, hX _ ?_⟩)
  unfold wpY_select
  exact pm_vY hC hj (br_t rfl ⟨_, hY _ ⟨rfl, R⟩⟩)
end
section
theorem pm_sm {v : Nat} (hv : v < 40) {th vl w : Nat → Int32} (hQ : pm_Q th vl w) (x y c : Int32) (pX pY : Nat → Int32) : ∀ (d j : Nat) (s : Int32), j + d = 32 → ∃ r : Int32, (∀ post : Int32 → Prop, post r → wX_sum_16 post (nI v) x y c th vl pX (d + 1) s (nI j)) ∧ (∀ post : Int32 → Prop, post r → wY_sum_16 post (nI v) x y c pY th w (d + 1) s (nI j)) := by
  intro d
  induction d with
  | zero =>
    intro j s hj
    have h : (32 : Int32) ≤ nI j := nI_le (a := 32) (by omega) (by omega)
    exact ⟨s, fun post hp => br_t h hp, fun post hp => br_t h hp⟩
  | succ d ih =>
    intro j s hj
    have h : ¬ (32 : Int32) ≤ nI j := nI_ge (b := 32) (by omega) (by decide)
    have hj2 : j < 32 := by omega
    by_cases q : nI j < x
    · obtain ⟨r, hX, hY⟩ := ih (j + 1) s (by omega)
      exact ⟨r, fun post hp => br_f h (br_t q (nm_r (nI_1 j) (hX post hp))), fun post hp => br_f h (br_t q (nm_r (nI_1 j) (hY post hp)))⟩
    by_cases p : y < nI j
    · obtain ⟨r, hX, hY⟩ := ih (j + 1) s (by omega)
      exact ⟨r, fun post hp => br_f h (br_f q (br_t p (nm_r (nI_1 j) (hX post hp)))), fun post hp => br_f h (br_f q (br_t p (nm_r (nI_1 j) (hY post hp))))⟩
    rcases hQ (32 * v + j) with ⟨z, e⟩ | ⟨z, e⟩
    · obtain ⟨r, hX, hY⟩ := ih (j + 1) s (by omega)
      exact ⟨r, fun post hp => br_f h (br_f q (br_f p (pm_cell ⟨pm_in hv hj2, nm_r (by rw [pm_cl hv hj2, e, Int32.add_zero]) (nm_r (nI_1 j) (hX post hp))⟩))), fun post hp => br_f h (br_f q (br_f p ⟨pm_yin hv hj2, br_t (by rw [pm_ycl hv hj2]; exact z) (nm_r (nI_1 j) (hY post hp))⟩))⟩
    · obtain ⟨r, hX, hY⟩ := ih (j + 1) (s + w (32 * v + j)) (by omega)
      exact ⟨r, fun post hp => br_f h (br_f q (br_f p (pm_cell ⟨pm_in hv hj2, nm_r (by rw [pm_cl hv hj2, e]) (nm_r (nI_1 j) (hX post hp))⟩))), fun post hp => br_f h (br_f q (br_f p ⟨pm_yin hv hj2, br_f (by rw [pm_ycl hv hj2, z]; exact pm_10) ⟨pm_yin hv hj2, nm_r (by rw [pm_ycl hv hj2]) (nm_r (nI_1 j) (hY post hp))⟩⟩))⟩
theorem i_vc_sum {k : Nat} {u : SX} {v : SY} (I : i_Rel k u v) (hk : k + 5 ≤ 2560) (v1 : Int32) (v2 : Int32) (v3 : Int32) : wpX_sum (fun r => wpY_sum (fun r' => r' = r ∧ i_Rel (k + 5) u v) v v1 v2 v3) u v1 v2 v3 := by
  obtain ⟨C, th, vl, w, pX, pY, P, h0, hC, rfl, rfl, hQ, hP⟩ := I
  have R := pm_rel (k := k + 5) h0 hC hQ hP
  unfold wpX_sum
  rcases pm_ver v1 hC with hb | ⟨j, hj, rfl⟩
  · refine pm_nX hb (br_t rfl ?_)
    unfold wpY_sum
    exact pm_nY hb (br_f pm_10 ⟨rfl, R⟩)
  obtain ⟨r, hX, hY⟩ := pm_sm (show j < 40 by omega) hQ v2 v3 (nI C) pX pY 32 0 0 rfl
  refine pm_vX hC hj (br_f pm_10 ⟨_, hX _ ?_⟩)
  unfold wpY_sum
  exact pm_vY hC hj (br_t rfl ⟨_, hY _ ⟨rfl, R⟩⟩)
theorem pm_ag {a b q : Nat} (ha : a < 40) (hb : b < 40) (hq : q < 32) {th vl w : Nat → Int32} (hQ : pm_Q th vl w) (c : Int32) (pX pY : Nat → Int32) : ∃ r : Int32, (∀ post : Int32 → Prop, post r → wpX_agree post (c, th, vl, pX) (nI a) (nI b) (nI q)) ∧ (∀ post : Int32 → Prop, post r → wpY_agree post (c, pY, th, w) (nI a) (nI b) (nI q)) := by
  have iX := pm_in ha hq
  have jX := pm_in hb hq
  have iY := pm_yin ha hq
  have jY := pm_yin hb hq
  have cX := pm_cl ha hq
  have dX := pm_cl hb hq
  have cY := pm_ycl ha hq
  have dY := pm_ycl hb hq
  unfold wpX_agree wpY_agree
  by_cases z : th (32 * a + q) = th (32 * b + q)
  · rcases hQ (32 * a + q) with ⟨z1, e1⟩ | ⟨z1, e1⟩
    · have e2 : vl (32 * b + q) = 0 := by
        rcases hQ (32 * b + q) with ⟨_, e⟩ | ⟨z2, _⟩
        · exact e
        · rw [z1, z2] at z; exact absurd z (by decide)
      exact ⟨1, fun post hp => pm_cell (pm_cell ⟨iX, jX, br_t (by rw [cX, dX]; exact z) ⟨iX, jX, br_t (by rw [cX, dX, e1, e2]) hp⟩⟩), fun post hp => ⟨iY, jY, br_t (by rw [cY, dY]; exact z) ⟨iY, br_t (by rw [cY]; exact z1) hp⟩⟩⟩
    · have e2 : vl (32 * b + q) = w (32 * b + q) := by
        rcases hQ (32 * b + q) with ⟨z2, _⟩ | ⟨_, e⟩
        · rw [z1, z2] at z; exact absurd z (by decide)
        · exact e
      have z3 : ¬ th (32 * nI a + nI q).toNatClampNeg = 0 := by rw [cY, z1]; exact pm_10
      by_cases y : w (32 * a + q) = w (32 * b + q)
      · exact ⟨1, fun post hp => pm_cell (pm_cell ⟨iX, jX, br_t (by rw [cX, dX]; exact z) ⟨iX, jX, br_t (by rw [cX, dX, e1, e2]; exact y) hp⟩⟩), fun post hp => ⟨iY, jY, br_t (by rw [cY, dY]; exact z) ⟨iY, br_f z3 ⟨iY, jY, br_t (by rw [cY, dY]; exact y) hp⟩⟩⟩⟩
      · exact ⟨0, fun post hp => pm_cell (pm_cell ⟨iX, jX, br_t (by rw [cX, dX]; exact z) ⟨iX, jX, br_f (by rw [cX, dX, e1, e2]; exact y) hp⟩⟩), fun post hp => ⟨iY, jY, br_t (by rw [cY, dY]; exact z) ⟨iY, br_f z3 ⟨iY, jY, br_f (by rw [cY, dY]; exact y) hp⟩⟩⟩⟩
  · exact ⟨0, fun post hp => pm_cell (pm_cell ⟨iX, jX, br_f (by rw [cX, dX]; exact z) hp⟩), fun post hp => ⟨iY, jY, br_f (by rw [cY, dY]; exact z) hp⟩⟩
theorem pm_df {a b : Nat} (ha : a < 40) (hb : b < 40) {th vl w : Nat → Int32} (hQ : pm_Q th vl w) (c : Int32) (pX pY : Nat → Int32) : ∀ (d j : Nat) (s : Int32), j + d = 32 → ∃ r : Int32, (∀ post : Int32 → Prop, post r → wX_differing_23 post (nI a) (nI b) c th vl pX (d + 1) s (nI j)) ∧ (∀ post : Int32 → Prop, post r → wY_differing_23 post (nI a) (nI b) c pY th w (d + 1) s (nI j)) := by
  intro d
  induction d with
  | zero =>
    intro j s hj
    have h : (32 : Int32) ≤ nI j := nI_le (a := 32) (by omega) (by omega)
    exact ⟨s, fun post hp => br_t h hp, fun post hp => br_t h hp⟩
  | succ d ih =>
    intro j s hj
    have h : ¬ (32 : Int32) ≤ nI j := nI_ge (b := 32) (by omega) (by decide)
    have hj2 : j < 32 := by omega
    obtain ⟨r, hX, hY⟩ := pm_ag ha hb hj2 hQ c pX pY
    by_cases z : r = 0
    · obtain ⟨r', hX', hY'⟩ := ih (j + 1) (s + 1) (by omega)
      exact ⟨r', fun post hp => br_f h (hX _ (br_t z (nm_e (nm_r (nI_1 j) (hX' post hp))))), fun post hp => br_f h (hY _ (br_t z (nm_e (nm_r (nI_1 j) (hY' post hp)))))⟩
    · obtain ⟨r', hX', hY'⟩ := ih (j + 1) s (by omega)
      exact ⟨r', fun post hp => br_f h (hX _ (br_f z (nm_r (nI_1 j) (hX' post hp)))), fun post hp => br_f h (hY _ (br_f z (nm_r (nI_1 j) (hY' post hp))))⟩
theorem i_vc_differing {k : Nat} {u : SX} {v : SY} (I : i_Rel k u v) (hk : k + 5 ≤ 2560) (v1 : Int32) (v2 : Int32) : wpX_differing (fun r => wpY_differing (fun r' => r' = r ∧ i_Rel (k + 5) u v) v v1 v2) u v1 v2 := by
  obtain ⟨C, th, vl, w, pX, pY, P, h0, hC, rfl, rfl, hQ, hP⟩ := I
  have R := pm_rel (k := k + 5) h0 hC hQ hP
  unfold wpX_differing
  rcases pm_ver v1 hC with hb | ⟨j, hj, rfl⟩
  · refine pm_nX hb (br_t rfl ?_)
    unfold wpY_differing
    exact pm_nY hb (br_f pm_10 ⟨rfl, R⟩)
  rcases pm_ver v2 hC with hb | ⟨m, hm, rfl⟩
  · refine pm_vX hC hj (br_f pm_10 (pm_nX hb (br_t rfl ?_)))
    unfold wpY_differing
    exact pm_vY hC hj (br_t rfl (pm_nY hb (br_f pm_10 ⟨rfl, R⟩)))
  obtain ⟨r, hX, hY⟩ := pm_df (show j < 40 by omega) (show m < 40 by omega) hQ (nI C) pX pY 32 0 0 rfl
  refine pm_vX hC hj (br_f pm_10 (pm_vX hC hm (br_f pm_10 ⟨_, hX _ ?_⟩)))
  unfold wpY_differing
  exact pm_vY hC hj (br_t rfl (pm_vY hC hm (br_t rfl ⟨_, hY _ ⟨rfl, R⟩⟩)))
theorem pm_sp {C q : Nat} (hC : C ≤ 40) (hq : q < 32) (th vl w pX pY : Nat → Int32) : ∀ (d j : Nat) (s : Int32), j + d = C → ∃ r : Int32, (∀ post : Int32 → Prop, post r → wX_spread_13 post (nI q) (nI C) th vl pX (d + 1) s (nI j)) ∧ (∀ post : Int32 → Prop, post r → wY_spread_14 post (nI q) (nI C) pY th w (d + 1) s (nI j)) := by
  intro d
  induction d with
  | zero =>
    intro j s hj
    have h : nI C ≤ nI j := nI_le (by omega) (by omega)
    exact ⟨s, fun post hp => br_t h hp, fun post hp => br_t h hp⟩
  | succ d ih =>
    intro j s hj
    have h : ¬ nI C ≤ nI j := nI_ge (by omega) (by omega)
    have hj2 : j < 40 := by omega
    have h40 : ¬ (40 : Int32) ≤ nI j := nI_ge (b := 40) hj2 (by decide)
    by_cases z : th (32 * j + q) = 0
    · obtain ⟨r, hX, hY⟩ := ih (j + 1) s (by omega)
      exact ⟨r, fun post hp => br_f h (pm_cell ⟨pm_in hj2 hq, br_t (by rw [pm_cl hj2 hq]; exact z) (nm_r (nI_1 j) (hX post hp))⟩), fun post hp => br_f h (br_f h40 ⟨pm_yin hj2 hq, br_t (by rw [pm_ycl hj2 hq]; exact z) (nm_r (nI_1 j) (hY post hp))⟩)⟩
    · obtain ⟨r, hX, hY⟩ := ih (j + 1) (s + 1) (by omega)
      exact ⟨r, fun post hp => br_f h (pm_cell ⟨pm_in hj2 hq, br_f (by rw [pm_cl hj2 hq]; exact z) (nm_e (nm_r (nI_1 j) (hX post hp)))⟩), fun post hp => br_f h (br_f h40 ⟨pm_yin hj2 hq, br_f (by rw [pm_ycl hj2 hq]; exact z) (nm_e (nm_r (nI_1 j) (hY post hp)))⟩)⟩
theorem i_vc_spread {k : Nat} {u : SX} {v : SY} (I : i_Rel k u v) (hk : k + 5 ≤ 2560) (v1 : Int32) : wpX_spread (fun r => wpY_spread (fun r' => r' = r ∧ i_Rel (k + 5) u v) v v1) u v1 := by
  obtain ⟨C, th, vl, w, pX, pY, P, h0, hC, rfl, rfl, hQ, hP⟩ := I
  have R := pm_rel (k := k + 5) h0 hC hQ hP
  unfold wpX_spread
  rcases pm_key v1 with hb | ⟨a, ha, rfl⟩
  · refine pm_nkX hb (br_t rfl ?_)
    unfold wpY_spread
    exact pm_nkY hb (br_f pm_10 ⟨rfl, R⟩)
  obtain ⟨r, hX, hY⟩ := pm_sp hC ha th vl w pX pY C 0 0 (by omega)
  refine pm_kX ha (br_f pm_10 ⟨_, hX _ ?_⟩)
  unfold wpY_spread
  exact pm_kY ha (br_t rfl ⟨_, hY _ ⟨rfl, R⟩⟩)
theorem pm_ch {C q : Nat} (hC : C ≤ 40) (hq : q < 32) {th vl w pX pY : Nat → Int32} {P : Nat → Nat} (hQ : pm_Q th vl w) (hP : pm_P C P pX pY) : ∀ (d j : Nat) (s : Int32), 0 < j → j + d = C → ∃ r : Int32, (∀ post : Int32 → Prop, post r → wX_changes_13 post (nI q) (nI C) th vl pX (d + 1) s (nI j)) ∧ (∀ post : Int32 → Prop, post r → wY_changes_14 post (nI q) (nI C) pY th w (d + 1) s (nI j)) := by
  intro d
  induction d with
  | zero =>
    intro j s _ hj
    have h : nI C ≤ nI j := nI_le (by omega) (by omega)
    exact ⟨s, fun post hp => br_t h hp, fun post hp => br_t h hp⟩
  | succ d ih =>
    intro j s j0 hj
    have h : ¬ nI C ≤ nI j := nI_ge (by omega) (by omega)
    have hj2 : j < 40 := by omega
    have h40 : ¬ (40 : Int32) ≤ nI j := nI_ge (b := 40) hj2 (by decide)
    have hi : vp_in (nI j) 40 := vp_in_nI hj2 (by decide)
    obtain ⟨p1, p2, p3⟩ := hP j j0 (by omega)
    have q2 : pX (nI j).toNatClampNeg = nI (P j) := by rw [nI_clamp (by omega)]; exact p2
    have q3 : pY (nI j).toNatClampNeg = nI (P j) := by rw [nI_clamp (by omega)]; exact p3
    obtain ⟨r, hX, hY⟩ := pm_ag hj2 (show P j < 40 by omega) hq hQ (nI C) pX pY
    rw [← q2] at hX
    rw [← q3] at hY
    by_cases z : r = 0
    · obtain ⟨r', hX', hY'⟩ := ih (j + 1) (s + 1) (by omega) (by omega)
      exact ⟨r', fun post hp => br_f h ⟨hi, hX _ (br_t z (nm_e (nm_r (nI_1 j) (hX' post hp))))⟩, fun post hp => br_f h (br_f h40 ⟨hi, hY _ (br_t z (nm_e (nm_r (nI_1 j) (hY' post hp))))⟩)⟩
    · obtain ⟨r', hX', hY'⟩ := ih (j + 1) s (by omega) (by omega)
      exact ⟨r', fun post hp => br_f h ⟨hi, hX _ (br_f z (nm_r (nI_1 j) (hX' post hp)))⟩, fun post hp => br_f h (br_f h40 ⟨hi, hY _ (br_f z (nm_r (nI_1 j) (hY' post hp)))⟩)⟩
theorem i_vc_changes {k : Nat} {u : SX} {v : SY} (I : i_Rel k u v) (hk : k + 5 ≤ 2560) (v1 : Int32) : wpX_changes (fun r => wpY_changes (fun r' => r' = r ∧ i_Rel (k + 5) u v) v v1) u v1 := by
  obtain ⟨C, th, vl, w, pX, pY, P, h0, hC, rfl, rfl, hQ, hP⟩ := I
  have R := pm_rel (k := k + 5) h0 hC hQ hP
  unfold wpX_changes
  rcases pm_key v1 with hb | ⟨a, ha, rfl⟩
  · refine pm_nkX hb (br_t rfl ?_)
    unfold wpY_changes
    exact pm_nkY hb (br_f pm_10 ⟨rfl, R⟩)
  obtain ⟨r, hX, hY⟩ := pm_ch hC ha hQ hP (C - 1) 1 0 (by decide) (by omega)
  refine pm_kX ha (br_f pm_10 ⟨_, hX _ ?_⟩)
  unfold wpY_changes
  exact pm_kY ha (br_t rfl ⟨_, hY _ ⟨rfl, R⟩⟩)
end
section
/-- from x towards version 0, at most n steps, until it is no longer above v -/
def pm_go (P : Nat → Nat) (v : Nat) : Nat → Nat → Nat
  | 0, x => x
  | n + 1, x => if x ≤ v then x else pm_go P v n (P x)
theorem pm_go_le {P : Nat → Nat} {v x : Nat} (h : x ≤ v) (n : Nat) : pm_go P v n x = x := by
  cases n with
  | zero => rfl
  | succ n => exact if_pos h
theorem pm_go_s {P : Nat → Nat} {v x : Nat} (h : ¬ x ≤ v) (n : Nat) : pm_go P v (n + 1) x = pm_go P v n (P x) := if_neg h
/-- v is an ancestor of w -/
def pm_A (P : Nat → Nat) (v w : Nat) : Bool := decide (pm_go P v 40 w = v)
theorem pm_A_lt {P : Nat → Nat} {v w : Nat} (h : w < v) : pm_A P v w = false := by
  unfold pm_A
  rw [pm_go_le (by omega)]
  exact decide_eq_false (by omega)
def pm_bit (b : Bool) : Int32 := match b with
  | true => 1
  | false => 0
theorem pm_eqb {post : Int32 → Prop} {x v : Nat} (hx : x < 40) (hv : v < 40) (h : post (pm_bit (decide (x = v)))) : (nI x = nI v → post 1) ∧ (¬ nI x = nI v → post 0) := by
  by_cases e : x = v
  · rw [decide_eq_true e] at h
    exact br_t (congrArg nI e) h
  · rw [decide_eq_false e] at h
    exact br_f (fun z => e ((nI_eq (by omega) (by omega)).mp z)) h
theorem pm_ld {C v : Nat} (hC : C ≤ 40) (hv : v < C) {th w pX pY : Nat → Int32} {P : Nat → Nat} (hP : pm_P C P pX pY) (c : Int32) (post : Int32 → Prop) : ∀ (d i x : Nat), i + d = 40 → x < C → post (pm_bit (decide (pm_go P v d x = v))) → wY_leads_5 post (nI v) c pY th w (d + 1) (nI x) (nI i) := by
  intro d
  induction d with
  | zero =>
    intro i x hi hx hp
    have h : (40 : Int32) ≤ nI i := nI_le (a := 40) (by omega) (by omega)
    exact br_t h (pm_eqb (by omega) (by omega) hp)
  | succ d ih =>
    intro i x hi hx hp
    have h : ¬ (40 : Int32) ≤ nI i := nI_ge (b := 40) (by omega) (by decide)
    by_cases q : x ≤ v
    · rw [pm_go_le q] at hp
      exact br_f h (br_t (nI_le q (by omega)) (pm_eqb (by omega) (by omega) hp))
    · rw [pm_go_s q] at hp
      obtain ⟨p1, _, p3⟩ := hP x (by omega) hx
      exact br_f h (br_f (nI_ge (by omega) (by omega)) ⟨vp_in_nI (by omega) (by decide), nm_r (by rw [nI_clamp (by omega)]; exact p3) (nm_r (nI_1 i) (ih (i + 1) (P x) (by omega) (by omega) hp))⟩)
theorem pm_ldY {post : Int32 → Prop} {C v x : Nat} {th w pX pY : Nat → Int32} {P : Nat → Nat} (hC : C ≤ 40) (hP : pm_P C P pX pY) (hv : v < C) (hx : x < C) {b : Bool} (hb : pm_A P v x = b) (h : post (pm_bit b)) : wpY_leads post (nI C, pY, th, w) (nI v) (nI x) := by
  unfold wpY_leads
  exact ⟨41, pm_ld hC hv hP (nI C) post 40 0 x rfl hx (by unfold pm_A at hb; rw [hb]; exact h)⟩
theorem pm_an {C v : Nat} (hC : C ≤ 40) {th vl pX pY : Nat → Int32} {P : Nat → Nat} (hP : pm_P C P pX pY) (c : Int32) (post : Int32 → Prop) : ∀ (d x n : Nat), x ≤ v + d → v + d < C → d ≤ n → post (pm_bit (decide (pm_go P v n x = v))) → wX_isAncestor_5 post (nI v) c th vl pX (d + 1) (nI x) (nI (v + d)) := by
  intro d
  induction d with
  | zero =>
    intro x n hx hd hn hp
    rw [pm_go_le (show x ≤ v by omega)] at hp
    exact br_t (nI_le (by omega) (by omega)) (pm_eqb (by omega) (by omega) hp)
  | succ d ih =>
    intro x n hx hd hn hp
    have h : ¬ nI (v + (d + 1)) ≤ nI v := nI_ge (by omega) (by omega)
    by_cases e : v + (d + 1) = x
    · obtain ⟨p1, p2, _⟩ := hP x (by omega) (by omega)
      obtain ⟨m, rfl⟩ : ∃ m, n = m + 1 := ⟨n - 1, by omega⟩
      rw [pm_go_s (by omega)] at hp
      exact br_f h (br_t (congrArg nI e) ⟨vp_in_nI (by omega) (by decide), nm_r (by rw [nI_clamp (by omega), e]; exact p2) (nm_r (pk_m1 (v + d)) (ih (P x) m (by omega) (by omega) (by omega) hp))⟩)
    · exact br_f h (br_f (fun z => e ((nI_eq (by omega) (by omega)).mp z)) (nm_r (pk_m1 (v + d)) (ih x n (by omega) (by omega) (by omega) hp)))
theorem pm_anX {post : Int32 → Prop} {C v x : Nat} {th vl pX pY : Nat → Int32} {P : Nat → Nat} (hC : C ≤ 40) (hP : pm_P C P pX pY) (hv : v < C) (hx : x < C) {b : Bool} (hb : pm_A P v x = b) (h : post (pm_bit b)) : wpX_isAncestor post (nI C, th, vl, pX) (nI v) (nI x) := by
  rw [← hb] at h
  unfold pm_A at h
  unfold wpX_isAncestor
  by_cases q : v ≤ x
  · obtain ⟨d, rfl⟩ : ∃ d, x = v + d := ⟨x - v, by omega⟩
    exact ⟨d + 1, pm_an hC hP (nI C) post d (v + d) 40 (by omega) hx (by omega) h⟩
  · rw [pm_go_le (by omega)] at h
    exact ⟨1, br_t (nI_le (by omega) (by omega)) (pm_eqb (by omega) (by omega) h)⟩
theorem i_vc_ancestor {k : Nat} {u : SX} {v : SY} (I : i_Rel k u v) (hk : k + 5 ≤ 2560) (v1 : Int32) (v2 : Int32) : wpX_ancestor (fun r => wpY_ancestor (fun r' => r' = r ∧ i_Rel (k + 5) u v) v v1 v2) u v1 v2 := by
  obtain ⟨C, th, vl, w, pX, pY, P, h0, hC, rfl, rfl, hQ, hP⟩ := I
  have R := pm_rel (k := k + 5) h0 hC hQ hP
  unfold wpX_ancestor
  rcases pm_ver v1 hC with hb | ⟨j, hj, rfl⟩
  · refine pm_nX hb (br_t rfl ?_)
    unfold wpY_ancestor
    exact pm_nY hb (br_f pm_10 ⟨rfl, R⟩)
  rcases pm_ver v2 hC with hb | ⟨m, hm, rfl⟩
  · refine pm_vX hC hj (br_f pm_10 (pm_nX hb (br_t rfl ?_)))
    unfold wpY_ancestor
    exact pm_vY hC hj (br_t rfl (pm_nY hb (br_f pm_10 ⟨rfl, R⟩)))
  cases hA : pm_A P j m with
  | false =>
    refine pm_vX hC hj (br_f pm_10 (pm_vX hC hm (br_f pm_10 (pm_anX hC hP hj hm hA (br_t rfl ?_)))))
    unfold wpY_ancestor
    exact pm_vY hC hj (br_t rfl (pm_vY hC hm (br_t rfl (pm_ldY hC hP hj hm hA (br_t rfl ⟨rfl, R⟩)))))
  | true =>
    refine pm_vX hC hj (br_f pm_10 (pm_vX hC hm (br_f pm_10 (pm_anX hC hP hj hm hA (br_f pm_10 ?_)))))
    unfold wpY_ancestor
    exact pm_vY hC hj (br_t rfl (pm_vY hC hm (br_t rfl (pm_ldY hC hP hj hm hA (br_f pm_10 ⟨rfl, R⟩)))))
/-- how many below n are counted by f -/
def pm_cnt (f : Nat → Bool) : Nat → Nat
  | 0 => 0
  | n + 1 => match f n with
    | true => pm_cnt f n + 1
    | false => pm_cnt f n
theorem pm_cnt_t {f : Nat → Bool} {n : Nat} (h : f n = true) : pm_cnt f (n + 1) = pm_cnt f n + 1 := by
  show (match f n with | true => pm_cnt f n + 1 | false => pm_cnt f n) = _
  rw [h]
theorem pm_cnt_f {f : Nat → Bool} {n : Nat} (h : f n = false) : pm_cnt f (n + 1) = pm_cnt f n := by
  show (match f n with | true => pm_cnt f n + 1 | false => pm_cnt f n) = _
  rw [h]
theorem pm_cnt_0 {f : Nat → Bool} : ∀ n : Nat, (∀ j, j < n → f j = false) → pm_cnt f n = 0 := by
  intro n
  induction n with
  | zero => intro _; rfl
  | succ n ih => intro h; rw [pm_cnt_f (h n (by omega))]; exact ih fun j hj => h j (by omega)
theorem pm_fmX {C v : Nat} (hC : C ≤ 40) (hv : v < C) {th vl pX pY : Nat → Int32} {P : Nat → Nat} (hP : pm_P C P pX pY) (post : Int32 → Prop) (hp : post (nI (pm_cnt (pm_A P v) C))) : ∀ (d i : Nat), i + d = C → wX_family_14 post (nI v) (nI C) th vl pX (d + 1) (nI (pm_cnt (pm_A P v) i)) (nI i) := by
  intro d
  induction d with
  | zero =>
    intro i hi
    obtain rfl : i = C := by omega
    exact br_t (nI_le (by omega) (by omega)) hp
  | succ d ih =>
    intro i hi
    have h : ¬ nI C ≤ nI i := nI_ge (by omega) (by omega)
    have H := ih (i + 1) (by omega)
    cases hA : pm_A P v i with
    | false =>
      rw [pm_cnt_f hA] at H
      exact br_f h (pm_anX hC hP hv (by omega) hA (br_t rfl (nm_r (nI_1 i) H)))
    | true =>
      rw [pm_cnt_t hA] at H
      exact br_f h (pm_anX hC hP hv (by omega) hA (br_f pm_10 (nm_r (nI_1 _) (nm_r (nI_1 i) H))))
theorem pm_fmY {C v : Nat} (hC : C ≤ 40) (hv : v < C) {th w pX pY : Nat → Int32} {P : Nat → Nat} (hP : pm_P C P pX pY) (post : Int32 → Prop) (hp : post (nI (pm_cnt (pm_A P v) C))) : ∀ (d i : Nat), i + d = C → wY_family_14 post (nI v) (nI C) pY th w (d + 1) (nI (pm_cnt (pm_A P v) i)) (nI i) := by
  intro d
  induction d with
  | zero =>
    intro i hi
    obtain rfl : i = C := by omega
    exact br_t (nI_le (by omega) (by omega)) hp
  | succ d ih =>
    intro i hi
    have h : ¬ nI C ≤ nI i := nI_ge (by omega) (by omega)
    have H := ih (i + 1) (by omega)
    cases hA : pm_A P v i with
    | false =>
      rw [pm_cnt_f hA] at H
      exact br_f h (pm_ldY hC hP hv (by omega) hA (br_t rfl (nm_r (nI_1 i) H)))
    | true =>
      rw [pm_cnt_t hA] at H
      exact br_f h (pm_ldY hC hP hv (by omega) hA (br_f pm_10 (nm_r (nI_1 _) (nm_r (nI_1 i) H))))
theorem i_vc_family {k : Nat} {u : SX} {v : SY} (I : i_Rel k u v) (hk : k + 5 ≤ 2560) (v1 : Int32) : wpX_family (fun r => wpY_family (fun r' => r' = r ∧ i_Rel (k + 5) u v) v v1) u v1 := by
  obtain ⟨C, th, vl, w, pX, pY, P, h0, hC, rfl, rfl, hQ, hP⟩ := I
  have R := pm_rel (k := k + 5) h0 hC hQ hP
  unfold wpX_family
  rcases pm_ver v1 hC with hb | ⟨j, hj, rfl⟩
  · refine pm_nX hb (br_t rfl ?_)
    unfold wpY_family
    exact pm_nY hb (br_f pm_10 ⟨rfl, R⟩)
  have e : pm_cnt (pm_A P j) j = 0 := pm_cnt_0 j fun i hi => pm_A_lt hi
  have hX := fun (post : Int32 → Prop) hp => pm_fmX (th := th) (vl := vl) hC hj hP post hp (C - j) j (by omega)
  rw [e] at hX
  have hY := fun (post : Int32 → Prop) hp => pm_fmY (th := th) (w := w) hC hj hP post hp C 0 (by omega)
  refine pm_vX hC hj (br_f pm_10 ⟨_, hX _ ?_⟩)
  unfold wpY_family
  exact pm_vY hC hj (br_t rfl ⟨_, hY _ ⟨rfl, R⟩⟩)
/-- the last below n that f takes, or 0 -/
def pm_last (f : Nat → Bool) : Nat → Nat
  | 0 => 0
  | n + 1 => match f n with
    | true => n
    | false => pm_last f n
theorem pm_last_t {f : Nat → Bool} {n : Nat} (h : f n = true) : pm_last f (n + 1) = n := by
  show (match f n with | true => n | false => pm_last f n) = _
  rw [h]
theorem pm_last_f {f : Nat → Bool} {n : Nat} (h : f n = false) : pm_last f (n + 1) = pm_last f n := by
  show (match f n with | true => n | false => pm_last f n) = _
  rw [h]
theorem pm_last_1 (f : Nat → Bool) : pm_last f 1 = 0 := by
  cases h : f 0 with
  | false => rw [pm_last_f h]; rfl
  | true => rw [pm_last_t h]
theorem pm_last_up {f : Nat → Bool} {v : Nat} (h : ∀ x, v < x → f x = false) : ∀ d : Nat, pm_last f (v + 1 + d) = pm_last f (v + 1) := by
  intro d
  induction d with
  | zero => rfl
  | succ d ih => rw [← Nat.add_assoc, pm_last_f (h _ (by omega))]; exact ih
def pm_M (P : Nat → Nat) (v w : Nat) : Nat → Bool := fun x => pm_A P x v && pm_A P x w
theorem pm_M_ff {P : Nat → Nat} {v w x : Nat} (h : pm_A P x v = false) : pm_M P v w x = false := by
  show (pm_A P x v && pm_A P x w) = false
  rw [h]; rfl
theorem pm_M_tb {P : Nat → Nat} {v w x : Nat} {b : Bool} (h : pm_A P x v = true) (h2 : pm_A P x w = b) : pm_M P v w x = b := by
  show (pm_A P x v && pm_A P x w) = b
  rw [h, h2]; rfl
theorem pm_mtX {C a b : Nat} (hC : C ≤ 40) (ha : a < C) (hb : b < C) {th vl pX pY : Nat → Int32} {P : Nat → Nat} (hP : pm_P C P pX pY) (post : Int32 → Prop) : ∀ d : Nat, d < C → post (nI (pm_last (pm_M P a b) (d + 1))) → wX_meet_20 post (nI a) (nI b) (nI C) th vl pX (d + 1) (nI d) := by
  intro d
  induction d with
  | zero =>
    intro _ hp
    rw [pm_last_1] at hp
    exact br_t (nI_le (b := 0) (by omega) (by decide)) hp
  | succ d ih =>
    intro hd hp
    have h : ¬ nI (d + 1) ≤ 0 := nI_nle (by omega) (by omega)
    cases hA : pm_A P (d + 1) a with
    | false =>
      rw [pm_last_f (pm_M_ff hA)] at hp
      exact br_f h (pm_anX hC hP hd ha hA (br_t rfl (nm_r (pk_m1 d) (ih (by omega) hp))))
    | true =>
      cases hB : pm_A P (d + 1) b with
      | false =>
        rw [pm_last_f (pm_M_tb hA hB)] at hp
        exact br_f h (pm_anX hC hP hd ha hA (br_f pm_10 (pm_anX hC hP hd hb hB (br_t rfl (nm_r (pk_m1 d) (ih (by omega) hp))))))
      | true =>
        rw [pm_last_t (pm_M_tb hA hB)] at hp
        exact br_f h (pm_anX hC hP hd ha hA (br_f pm_10 (pm_anX hC hP hd hb hB (br_f pm_10 hp))))
theorem pm_mtY {C a b : Nat} (hC : C ≤ 40) (ha : a < C) (hb : b < C) {th w pX pY : Nat → Int32} {P : Nat → Nat} (hP : pm_P C P pX pY) (post : Int32 → Prop) (hp : post (nI (pm_last (pm_M P a b) C))) : ∀ (d i : Nat), i + d = C → wY_meet_23 post (nI a) (nI b) (nI C) pY th w (d + 1) (nI (pm_last (pm_M P a b) i)) (nI i) := by
  intro d
  induction d with
  | zero =>
    intro i hi
    obtain rfl : i = C := by omega
    exact br_t (nI_le (by omega) (by omega)) hp
  | succ d ih =>
    intro i hi
    have h : ¬ nI C ≤ nI i := nI_ge (by omega) (by omega)
    have hd : i < C := by omega
    have H := ih (i + 1) (by omega)
    cases hA : pm_A P i a with
    | false =>
      rw [pm_last_f (pm_M_ff hA)] at H
      exact br_f h (pm_ldY hC hP hd ha hA (br_t rfl (nm_r (nI_1 i) H)))
    | true =>
      cases hB : pm_A P i b with
      | false =>
        rw [pm_last_f (pm_M_tb hA hB)] at H
        exact br_f h (pm_ldY hC hP hd ha hA (br_f pm_10 (pm_ldY hC hP hd hb hB (br_t rfl (nm_r (nI_1 i) H)))))
      | true =>
        rw [pm_last_t (pm_M_tb hA hB)] at H
        exact br_f h (pm_ldY hC hP hd ha hA (br_f pm_10 (pm_ldY hC hP hd hb hB (br_f pm_10 (nm_r (nI_1 i) H)))))
theorem i_vc_meet {k : Nat} {u : SX} {v : SY} (I : i_Rel k u v) (hk : k + 5 ≤ 2560) (v1 : Int32) (v2 : Int32) : wpX_meet (fun r => wpY_meet (fun r' => r' = r ∧ i_Rel (k + 5) u v) v v1 v2) u v1 v2 := by
  obtain ⟨C, th, vl, w, pX, pY, P, h0, hC, rfl, rfl, hQ, hP⟩ := I
  have R := pm_rel (k := k + 5) h0 hC hQ hP
  unfold wpX_meet
  rcases pm_ver v1 hC with hb | ⟨j, hj, rfl⟩
  · refine pm_nX hb (br_t rfl ?_)
    unfold wpY_meet
    exact pm_nY hb (br_f pm_10 ⟨rfl, R⟩)
  rcases pm_ver v2 hC with hb | ⟨m, hm, rfl⟩
  · refine pm_vX hC hj (br_f pm_10 (pm_nX hb (br_t rfl ?_)))
    unfold wpY_meet
    exact pm_vY hC hj (br_t rfl (pm_nY hb (br_f pm_10 ⟨rfl, R⟩)))
  have e := pm_last_up (f := pm_M P j m) (v := j) (fun x hx => pm_M_ff (pm_A_lt hx)) (C - (j + 1))
  rw [show j + 1 + (C - (j + 1)) = C by omega] at e
  have hX := fun (post : Int32 → Prop) hp => pm_mtX (th := th) (vl := vl) hC hj hm hP post j hj hp
  have hY := fun (post : Int32 → Prop) hp => pm_mtY (th := th) (w := w) hC hj hm hP post hp C 0 (by omega)
  refine pm_vX hC hj (br_f pm_10 (pm_vX hC hm (br_f pm_10 ⟨_, hX _ ?_⟩)))
  rw [← e]
  unfold wpY_meet
  exact pm_vY hC hj (br_t rfl (pm_vY hC hm (br_t rfl ⟨_, hY _ ⟨rfl, R⟩⟩)))
end
