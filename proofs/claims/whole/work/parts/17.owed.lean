/-! 17: the relation; the constructors; the calls that change something -/
def i_Rel (_ : Nat) (u : SX) (v : SY) : Prop := ∃ (P R A m : Nat) (mv sh cw tk ap al az D q : Nat → Nat) (G : Nat → Bool) (rm rs rc rt pa la sa re de wo pw fr to si be cr mo tt yd yw yl : Nat → Int32),
  sc_B P R mv sh cw tk ∧ sc_RX R mv sh cw tk rm rs rc rt ∧ sc_PW pw ∧ sc_RY R mv sh cw tk fr to si be cr mo tt ∧ sc_AL A ap al az pa la sa ∧
  sc_Fin (sc_S P) (sc_st P) (sc_E P R mv sh cw tk) D q m ∧ sc_En D q m (nI m) re de ∧ sc_Gr (sc_E P R mv sh cw tk) D G ∧ (∀ c, c < sc_S P → wo c = sc_b (G c)) ∧
  u = ((nI P), (nI (sc_S P)), (nI R), nI A, nI m, rm, rs, rc, rt, pa, la, sa, re, de, wo) ∧ v = ((nI P), (nI (sc_S P)), (nI R), nI A, pw, fr, to, si, be, cr, mo, tt, pa, la, sa, yd, yw, yl)
theorem sc_mk {P R A m : Nat} {mv sh cw tk ap al az D q : Nat → Nat} {G : Nat → Bool} {rm rs rc rt pa la sa re de wo pw fr to si be cr mo tt yd yw yl : Nat → Int32} (k : Nat)
    (B : sc_B P R mv sh cw tk) (X : sc_RX R mv sh cw tk rm rs rc rt) (W : sc_PW pw) (Y : sc_RY R mv sh cw tk fr to si be cr mo tt) (LA : sc_AL A ap al az pa la sa)
    (F : sc_Fin (sc_S P) (sc_st P) (sc_E P R mv sh cw tk) D q m) (hE : sc_En D q m (nI m) re de) (hG : sc_Gr (sc_E P R mv sh cw tk) D G) (hw : ∀ c, c < sc_S P → wo c = sc_b (G c)) : i_Rel k ((nI P), (nI (sc_S P)), (nI R), nI A, nI m, rm, rs, rc, rt, pa, la, sa, re, de, wo) ((nI P), (nI (sc_S P)), (nI R), nI A, pw, fr, to, si, be, cr, mo, tt, pa, la, sa, yd, yw, yl) :=
  ⟨P, R, A, m, mv, sh, cw, tk, ap, al, az, D, q, G, rm, rs, rc, rt, pa, la, sa, re, de, wo, pw, fr, to, si, be, cr, mo, tt, yd, yw, yl, B, X, W, Y, LA, F, hE, hG, hw, rfl, rfl⟩
theorem i_up {k : Nat} {u : SX} {v : SY} (h : i_Rel k u v) : i_Rel (k + 5) u v := h
theorem sc_B0 {P : Nat} (h1 : 1 ≤ P) (h4 : P ≤ 4) : sc_B P 0 (fun _ => 0) (fun _ => 0) (fun _ => 0) (fun _ => 0) := ⟨h1, h4, by decide, fun i hi => absurd hi (Nat.not_lt_zero _)⟩
theorem sc_X0 : sc_RX 0 (fun _ => 0) (fun _ => 0) (fun _ => 0) (fun _ => 0) (fun _ => 0) (fun _ => 0) (fun _ => 0) (fun _ => 0) := fun i hi => absurd hi (Nat.not_lt_zero _)
theorem sc_Y0 : sc_RY 0 (fun _ => 0) (fun _ => 0) (fun _ => 0) (fun _ => 0) (fun _ => 0) (fun _ => 0) (fun _ => 0) (fun _ => 0) (fun _ => 0) (fun _ => 0) (fun _ => 0) := fun i hi => absurd hi (Nat.not_lt_zero _)
theorem sc_A0 {ap al az : Nat → Nat} {pa la sa : Nat → Int32} : sc_AL 0 ap al az pa la sa := ⟨by decide, fun i hi => absurd hi (Nat.not_lt_zero _)⟩
theorem sc_xini {P : Nat} (h1 : 1 ≤ P) (h4 : P ≤ 4) {z : Int32} (hz : z = nI P) (post : SX → Prop)
    (h : ∀ D q m re de G wo, sc_Fin (sc_S P) (sc_st P) (sc_E P 0 (fun _ => 0) (fun _ => 0) (fun _ => 0) (fun _ => 0)) D q m → sc_En D q m (nI m) re de → sc_Gr (sc_E P 0 (fun _ => 0) (fun _ => 0) (fun _ => 0) (fun _ => 0)) D G → (∀ c, c < sc_S P → wo c = sc_b (G c)) →
      post (nI P, nI (sc_S P), nI 0, nI 0, nI m, (fun _ => 0), (fun _ => 0), (fun _ => 0), (fun _ => 0), (fun _ => 0), (fun _ => 0), (fun _ => 0), re, de, wo)) :
    wX_init_119 post z 0 0 0 0 0 (fun _ => 0) (fun _ => 0) (fun _ => 0) (fun _ => 0) (fun _ => 0) (fun _ => 0) (fun _ => 0) (fun _ => 0) (fun _ => 0) (fun _ => 0) := by
  subst hz
  refine sc_xpow (P + 1) _ ?_ (hx := nI_1 P)
  refine nm_r (e' := nI (sc_S P)) (by rw [nI_1]; exact pk_mul _ _) ?_
  exact sc_xfr (R := 0) (sc_B0 h1 h4) sc_X0 _ (fun D q m re de F hE => sc_xfe (sc_B0 h1 h4) sc_X0 F hE _ (fun G wo hG hw => h D q m re de G wo F hE hG hw))
theorem sc_yini {P : Nat} (h1 : 1 ≤ P) (h4 : P ≤ 4) {z : Int32} (hz : z = nI P) (post : SY → Prop)
    (h : ∀ pw, sc_PW pw → post (nI P, nI (sc_S P), nI 0, nI 0, pw, (fun _ => 0), (fun _ => 0), (fun _ => 0), (fun _ => 0), (fun _ => 0), (fun _ => 0), (fun _ => 0), (fun _ => 0), (fun _ => 0), (fun _ => 0), (fun _ => 0), (fun _ => 0), (fun _ => 0))) :
    wY_init_136 post z 0 0 0 0 (fun _ => 0) (fun _ => 0) (fun _ => 0) (fun _ => 0) (fun _ => 0) (fun _ => 0) (fun _ => 0) (fun _ => 0) (fun _ => 0) (fun _ => 0) (fun _ => 0) (fun _ => 0) (fun _ => 0) (fun _ => 0) := by
  subst hz
  refine nm_e ?_
  refine pk_loop (fun n k s => wY_init_148 post (nI P) 0 0 0 n (nI k) s (fun _ => 0) (fun _ => 0) (fun _ => 0) (fun _ => 0) (fun _ => 0) (fun _ => 0) (fun _ => 0) (fun _ => 0) (fun _ => 0) (fun _ => 0) (fun _ => 0) (fun _ => 0) (fun _ => 0)) (fun k s => 1 ≤ k ∧ ∀ j, j < k → s j = nI (3 ^ j)) 6 1 (upd (fun _ => 0) 0 1) (by decide) ⟨Nat.le_refl _, lt_s lt_0 rfl⟩ ?_ ?_
  · rintro n s ⟨_, I⟩
    have hcl : (nI P + 1).toNatClampNeg = P + 1 := by rw [nI_1]; exact nI_clamp (by omega)
    exact pk_le 6 6 (fun _ => ⟨pk_in (P + 1) 6 (by omega) (nI_1 P), nm_r (e' := nI (sc_S P)) (by rw [hcl, I (P + 1) (by omega), nI_1]; exact pk_mul _ _) (h s I)⟩) (fun q => absurd q (Nat.lt_irrefl _))
  · rintro n k s hk ⟨hk1, I⟩ K
    obtain ⟨t, rfl⟩ : ∃ t, k = t + 1 := ⟨k - 1, by omega⟩
    refine pk_le 6 (t + 1) (fun q => absurd q (by omega)) (fun _ => ⟨pk_in t 6 (by omega) (nI_pred t), pk_in (t + 1) 6 (by omega), nm_e (nm_r (nI_1 (t + 1)) (K _ ⟨by omega, ?_⟩))⟩)
    rw [nI_pred, nI_clamp (show t + 1 < 2 ^ 31 by omega), nI_clamp (show t < 2 ^ 31 by omega), I t (by omega)]
    refine lt_s (fun a ha => by rw [pk_un (by omega)]; exact I a ha) ?_
    rw [pk_us, Nat.pow_succ, Nat.mul_comm]
    exact pk_mul 3 (3 ^ t)
theorem sc_vc0 {P : Nat} (h1 : 1 ≤ P) (h4 : P ≤ 4) {z : Int32} (hz : z = nI P) (Q : (SY → Prop) → Prop) (hQ : ∀ post, wY_init_136 post z 0 0 0 0 (fun _ => 0) (fun _ => 0) (fun _ => 0) (fun _ => 0) (fun _ => 0) (fun _ => 0) (fun _ => 0) (fun _ => 0) (fun _ => 0) (fun _ => 0) (fun _ => 0) (fun _ => 0) (fun _ => 0) (fun _ => 0) → Q post) :
    wX_init_119 (fun u => Q (fun v => i_Rel 1 u v)) z 0 0 0 0 0 (fun _ => 0) (fun _ => 0) (fun _ => 0) (fun _ => 0) (fun _ => 0) (fun _ => 0) (fun _ => 0) (fun _ => 0) (fun _ => 0) (fun _ => 0) :=
  sc_xini h1 h4 hz _ (fun D q m re de G wo F hE hG hw => hQ _ (sc_yini h1 h4 hz _ (fun pw W => sc_mk (ap := fun _ => 0) (al := fun _ => 0) (az := fun _ => 0) 1 (sc_B0 h1 h4) sc_X0 W sc_Y0 sc_A0 F hE hG hw)))
theorem i_vc0 (k0 : Int32) : wpX_init (fun u => wpY_init (fun v => i_Rel 1 u v) k0) k0 := by
  by_cases h1 : 1 ≤ k0
  · by_cases h4 : k0 ≤ 4
    · obtain ⟨P, hP, rfl⟩ := nI_of2 (x := k0) (M := 4) (n := 4) rfl (Int32.not_lt.mpr (Int32.le_trans (by decide) h1)) h4
      have hP1 : 1 ≤ P := (nI_leI (a := 1) (by decide) (by omega)).mp h1
      exact br_t h1 (br_t h4 (sc_vc0 hP1 hP rfl (fun post => wpY_init post (nI P)) (fun post hp => br_t h1 (br_t h4 hp))))
    · exact br_t h1 (br_f h4 (sc_vc0 (P := 4) (by decide) (by decide) rfl (fun post => wpY_init post k0) (fun post hp => br_t h1 (br_f h4 hp))))
  · exact br_f h1 (sc_vc0 (P := 1) (by decide) (by decide) rfl (fun post => wpY_init post k0) (fun post hp => br_f h1 hp))
theorem i_vc_processes {k : Nat} {u : SX} {v : SY} (I : i_Rel k u v) (hk : k + 5 ≤ 2561) : wpX_processes (fun r => wpY_processes (fun r' => r' = r ∧ i_Rel (k + 5) u v) v) u := by
  obtain ⟨P, R, A, m, mv, sh, cw, tk, ap, al, az, D, q, G, rm, rs, rc, rt, pa, la, sa, re, de, wo, pw, fr, to, si, be, cr, mo, tt, yd, yw, yl, B, X, W, Y, LA, F, hE, hG, hw, rfl, rfl⟩ := I
  have hP4 := B.2.1
  have hS := sc_S_le hP4
  exact ⟨rfl, sc_mk _ B X W Y LA F hE hG hw⟩
theorem i_vc_limit {k : Nat} {u : SX} {v : SY} (I : i_Rel k u v) (hk : k + 5 ≤ 2561) : wpX_limit (fun r => wpY_limit (fun r' => r' = r ∧ i_Rel (k + 5) u v) v) u := by
  obtain ⟨P, R, A, m, mv, sh, cw, tk, ap, al, az, D, q, G, rm, rs, rc, rt, pa, la, sa, re, de, wo, pw, fr, to, si, be, cr, mo, tt, yd, yw, yl, B, X, W, Y, LA, F, hE, hG, hw, rfl, rfl⟩ := I
  have hP4 := B.2.1
  have hS := sc_S_le hP4
  exact ⟨rfl, sc_mk _ B X W Y LA F hE hG hw⟩
theorem i_vc_rules {k : Nat} {u : SX} {v : SY} (I : i_Rel k u v) (hk : k + 5 ≤ 2561) : wpX_rules (fun r => wpY_rules (fun r' => r' = r ∧ i_Rel (k + 5) u v) v) u := by
  obtain ⟨P, R, A, m, mv, sh, cw, tk, ap, al, az, D, q, G, rm, rs, rc, rt, pa, la, sa, re, de, wo, pw, fr, to, si, be, cr, mo, tt, yd, yw, yl, B, X, W, Y, LA, F, hE, hG, hw, rfl, rfl⟩ := I
  have hP4 := B.2.1
  have hS := sc_S_le hP4
  exact ⟨rfl, sc_mk _ B X W Y LA F hE hG hw⟩
theorem i_vc_clearAlarms {k : Nat} {u : SX} {v : SY} (I : i_Rel k u v) (hk : k + 5 ≤ 2561) : wpX_clearAlarms (fun r u' => wpY_clearAlarms (fun r' v' => r' = r ∧ i_Rel (k + 5) u' v') v) u := by
  obtain ⟨P, R, A, m, mv, sh, cw, tk, ap, al, az, D, q, G, rm, rs, rc, rt, pa, la, sa, re, de, wo, pw, fr, to, si, be, cr, mo, tt, yd, yw, yl, B, X, W, Y, LA, F, hE, hG, hw, rfl, rfl⟩ := I
  have hP4 := B.2.1
  have hS := sc_S_le hP4
  exact ⟨rfl, sc_mk (A := 0) (ap := ap) (al := al) (az := az) _ B X W Y sc_A0 F hE hG hw⟩
theorem i_vc_addRule {k : Nat} {u : SX} {v : SY} (I : i_Rel k u v) (hk : k + 5 ≤ 2561) (v1 : Int32) (v2 : Int32) (v3 : Int32) (v4 : Int32) : wpX_addRule (fun r u' => wpY_addRule (fun r' v' => r' = r ∧ i_Rel (k + 5) u' v') v v1 v2 v3 v4) u v1 v2 v3 v4 := by
  obtain ⟨P, R, A, m, mv, sh, cw, tk, ap, al, az, D, q, G, rm, rs, rc, rt, pa, la, sa, re, de, wo, pw, fr, to, si, be, cr, mo, tt, yd, yw, yl, B, X, W, Y, LA, F, hE, hG, hw, rfl, rfl⟩ := I
  have hP4 := B.2.1
  have hS := sc_S_le hP4
  have M := sc_mk (yd := yd) (yw := yw) (yl := yl) (k + 5) B X W Y LA F hE hG hw
  by_cases a1 : v1 < 0
  · exact br_t a1 (br_t a1 ⟨rfl, M⟩)
  by_cases b1 : v1 ≤ 8
  rotate_left
  · exact br_f a1 (br_f b1 (br_f a1 (br_f b1 ⟨rfl, M⟩)))
  by_cases a2 : v2 < 0
  · exact br_f a1 (br_t b1 (br_t a2 (br_f a1 (br_t b1 (br_t a2 ⟨rfl, M⟩)))))
  by_cases b2 : v2 ≤ 15
  rotate_left
  · exact br_f a1 (br_t b1 (br_f a2 (br_f b2 (br_f a1 (br_t b1 (br_f a2 (br_f b2 ⟨rfl, M⟩)))))))
  by_cases a3 : v3 < 0
  · exact br_f a1 (br_t b1 (br_f a2 (br_t b2 (br_t a3 (br_f a1 (br_t b1 (br_f a2 (br_t b2 (br_t a3 ⟨rfl, M⟩)))))))))
  by_cases b3 : v3 ≤ 11
  rotate_left
  · exact br_f a1 (br_t b1 (br_f a2 (br_t b2 (br_f a3 (br_f b3 (br_f a1 (br_t b1 (br_f a2 (br_t b2 (br_f a3 (br_f b3 ⟨rfl, M⟩)))))))))))
  by_cases a4 : v4 < 0
  · exact br_f a1 (br_t b1 (br_f a2 (br_t b2 (br_f a3 (br_t b3 (br_t a4 (br_f a1 (br_t b1 (br_f a2 (br_t b2 (br_f a3 (br_t b3 (br_t a4 ⟨rfl, M⟩)))))))))))))
  by_cases b4 : v4 ≤ 4
  rotate_left
  · exact br_f a1 (br_t b1 (br_f a2 (br_t b2 (br_f a3 (br_t b3 (br_f a4 (br_f b4 (br_f a1 (br_t b1 (br_f a2 (br_t b2 (br_f a3 (br_t b3 (br_f a4 (br_f b4 ⟨rfl, M⟩)))))))))))))))
  obtain ⟨n1, h1, rfl⟩ := nI_of2 (x := v1) (M := 8) (n := 8) rfl a1 b1
  obtain ⟨n2, h2, rfl⟩ := nI_of2 (x := v2) (M := 15) (n := 15) rfl a2 b2
  obtain ⟨n3, h3, rfl⟩ := nI_of2 (x := v3) (M := 11) (n := 11) rfl a3 b3
  obtain ⟨n4, h4, rfl⟩ := nI_of2 (x := v4) (M := 4) (n := 4) rfl a4 b4
  have hR := B.2.2.1
  by_cases c : R < 12
  · have c' : nI R < 12 := nI_lt (b := 12) c (by decide)
    have hin : vp_in (nI R) 12 := pk_in R 12 c
    have hcl : (nI R).toNatClampNeg = R := nI_clamp (by omega)
    refine br_f a1 (br_t b1 (br_f a2 (br_t b2 (br_f a3 (br_t b3 (br_f a4 (br_t b4 (br_t c' ⟨hin, nm_e ⟨hin, nm_e ⟨hin, nm_e ⟨hin, nm_e (nm_r (nI_1 R) ?_)⟩⟩⟩⟩))))))))
    have B' := sc_B_up B c h1 h2 h3 h4
    have X' := sc_RX_up X n1 n2 n3 n4 _ hcl
    have Y' := sc_RY_up Y (d := n4) h1 h2 h3 _ hcl
    refine sc_xfr B' X' _ (fun D q m re de F hE => sc_xfe B' X' F hE _ (fun G wo hG hw => ?_))
    exact br_f a1 (br_t b1 (br_f a2 (br_t b2 (br_f a3 (br_t b3 (br_f a4 (br_t b4 (br_t c' ⟨by decide, hin, nm_e ⟨by decide, hin, nm_e ⟨by decide, hin, nm_e ⟨by decide, hin, nm_e ⟨by decide, hin, nm_e ⟨by decide, hin, nm_e ⟨hin, nm_e (nm_r (nI_1 R) ⟨rfl, sc_mk _ B' X' W Y' LA F hE hG hw⟩)⟩⟩⟩⟩⟩⟩⟩))))))))
  · have c' : ¬ nI R < 12 := nI_nlt (b := 12) (by omega) (by omega)
    exact br_f a1 (br_t b1 (br_f a2 (br_t b2 (br_f a3 (br_t b3 (br_f a4 (br_t b4 (br_f c' (br_f a1 (br_t b1 (br_f a2 (br_t b2 (br_f a3 (br_t b3 (br_f a4 (br_t b4 (br_f c' ⟨rfl, M⟩)))))))))))))))))
theorem i_vc_dropRule {k : Nat} {u : SX} {v : SY} (I : i_Rel k u v) (hk : k + 5 ≤ 2561) (v1 : Int32) : wpX_dropRule (fun r u' => wpY_dropRule (fun r' v' => r' = r ∧ i_Rel (k + 5) u' v') v v1) u v1 := by
  obtain ⟨P, R, A, m, mv, sh, cw, tk, ap, al, az, D, q, G, rm, rs, rc, rt, pa, la, sa, re, de, wo, pw, fr, to, si, be, cr, mo, tt, yd, yw, yl, B, X, W, Y, LA, F, hE, hG, hw, rfl, rfl⟩ := I
  have hP4 := B.2.1
  have hS := sc_S_le hP4
  have M := sc_mk (yd := yd) (yw := yw) (yl := yl) (k + 5) B X W Y LA F hE hG hw
  have hR := B.2.2.1
  rcases pk_ix v1 (n := R) (by omega) with e | e | ⟨i, hi, rfl⟩
  · exact br_t e (br_t e ⟨rfl, M⟩)
  · have e1 := sc_out (by omega) e
    have e2 : ¬ v1 < nI R := Int32.not_lt.mpr e
    exact br_f e1 (br_f e2 (br_f e1 (br_f e2 ⟨rfl, M⟩)))
  · obtain ⟨R, rfl⟩ : ∃ t, R = t + 1 := ⟨R - 1, by omega⟩
    refine sc_xdrop B X hi _ (fun D q m re de G wo F hE hG hw => ?_)
    exact sc_ydrop hR hi _ ⟨rfl, sc_mk _ (sc_B_sf B (Nat.le_refl _)) (sc_RX_sf X) W (sc_RY_sf Y) LA F hE hG hw⟩
theorem i_vc_addAlarm {k : Nat} {u : SX} {v : SY} (I : i_Rel k u v) (hk : k + 5 ≤ 2561) (v1 : Int32) (v2 : Int32) (v3 : Int32) : wpX_addAlarm (fun r u' => wpY_addAlarm (fun r' v' => r' = r ∧ i_Rel (k + 5) u' v') v v1 v2 v3) u v1 v2 v3 := by
  obtain ⟨P, R, A, m, mv, sh, cw, tk, ap, al, az, D, q, G, rm, rs, rc, rt, pa, la, sa, re, de, wo, pw, fr, to, si, be, cr, mo, tt, yd, yw, yl, B, X, W, Y, LA, F, hE, hG, hw, rfl, rfl⟩ := I
  have hP4 := B.2.1
  have hS := sc_S_le hP4
  have M := sc_mk (yd := yd) (yw := yw) (yl := yl) (k + 5) B X W Y LA F hE hG hw
  by_cases a1 : v1 < 0
  · exact br_t a1 (br_t a1 ⟨rfl, M⟩)
  by_cases b1 : v1 ≤ 2
  rotate_left
  · exact br_f a1 (br_f b1 (br_f a1 (br_f b1 ⟨rfl, M⟩)))
  by_cases a2 : v2 < 1
  · exact br_f a1 (br_t b1 (br_t a2 (br_f a1 (br_t b1 (br_t a2 ⟨rfl, M⟩)))))
  by_cases b2 : v2 ≤ 4
  rotate_left
  · exact br_f a1 (br_t b1 (br_f a2 (br_f b2 (br_f a1 (br_t b1 (br_f a2 (br_f b2 ⟨rfl, M⟩)))))))
  by_cases a3 : v3 < 0
  · exact br_f a1 (br_t b1 (br_f a2 (br_t b2 (br_t a3 (br_f a1 (br_t b1 (br_f a2 (br_t b2 (br_t a3 ⟨rfl, M⟩)))))))))
  by_cases b3 : v3 ≤ 3
  rotate_left
  · exact br_f a1 (br_t b1 (br_f a2 (br_t b2 (br_f a3 (br_f b3 (br_f a1 (br_t b1 (br_f a2 (br_t b2 (br_f a3 (br_f b3 ⟨rfl, M⟩)))))))))))
  have a2' : ¬ v2 < 0 := Int32.not_lt.mpr (Int32.le_trans (by decide) (Int32.not_lt.mp a2))
  obtain ⟨n1, h1, rfl⟩ := nI_of2 (x := v1) (M := 2) (n := 2) rfl a1 b1
  obtain ⟨n2, h2, rfl⟩ := nI_of2 (x := v2) (M := 4) (n := 4) rfl a2' b2
  obtain ⟨n3, h3, rfl⟩ := nI_of2 (x := v3) (M := 3) (n := 3) rfl a3 b3
  have hA := LA.1
  by_cases c : A < 4
  · have c' : nI A < 4 := nI_lt (b := 4) c (by decide)
    have hin : vp_in (nI A) 4 := pk_in A 4 c
    have hcl : (nI A).toNatClampNeg = A := nI_clamp (by omega)
    have LA' := sc_AL_up LA c h1 h2 h3 _ hcl
    exact br_f a1 (br_t b1 (br_f a2 (br_t b2 (br_f a3 (br_t b3 (br_t c' ⟨hin, nm_e ⟨hin, nm_e ⟨hin, nm_e (nm_r (nI_1 A) (br_f a1 (br_t b1 (br_f a2 (br_t b2 (br_f a3 (br_t b3 (br_t c' ⟨hin, nm_e ⟨hin, nm_e ⟨hin, nm_e (nm_r (nI_1 A) ⟨rfl, sc_mk _ B X W Y LA' F hE hG hw⟩)⟩⟩⟩))))))))⟩⟩⟩))))))
  · have c' : ¬ nI A < 4 := nI_nlt (b := 4) (by omega) (by omega)
    exact br_f a1 (br_t b1 (br_f a2 (br_t b2 (br_f a3 (br_t b3 (br_f c' (br_f a1 (br_t b1 (br_f a2 (br_t b2 (br_f a3 (br_t b3 (br_f c' ⟨rfl, M⟩)))))))))))))
