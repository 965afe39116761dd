/-! 18: the calls that only ask -/
section
variable {P R A m : Nat} {mv sh cw tk ap al az D q : Nat → Nat} {ak : Int32} {pw fr to si be cr mo tt pa la sa yd yw yl : Nat → Int32}
theorem sc_ytrN (B : sc_B P R mv sh cw tk) (W : sc_PW pw) (Y : sc_RY R mv sh cw tk fr to si be cr mo tt) (LA : sc_AL A ap al az pa la sa) (L : sc_Loc (sc_S P) (sc_st P) (sc_E P R mv sh cw tk) D) (hD : ∀ c, D c ≤ sc_S P) (v : Int32) (post : Int32 → SY → Prop)
    (hn : sc_NB D (sc_bad P A ap al az) (sc_S P)) (hN : ∀ yd, post (-1) ((nI P), (nI (sc_S P)), (nI R), nI A, pw, fr, to, si, be, cr, mo, tt, pa, la, sa, yd, yw, yl)) : wpY_trace post ((nI P), (nI (sc_S P)), (nI R), nI A, pw, fr, to, si, be, cr, mo, tt, pa, la, sa, yd, yw, yl) v := by
  unfold wpY_trace
  dsimp only
  exact sc_yvio B W Y LA L hD _ (fun yd _ => br_f (by decide) (hN yd)) (fun yd d _ h => (sc_LV_NB h hn).elim)
theorem sc_ytrF (B : sc_B P R mv sh cw tk) (W : sc_PW pw) (Y : sc_RY R mv sh cw tk fr to si be cr mo tt) (LA : sc_AL A ap al az pa la sa) (L : sc_Loc (sc_S P) (sc_st P) (sc_E P R mv sh cw tk) D) (hD : ∀ c, D c ≤ sc_S P) (v : Int32) (post : Int32 → SY → Prop) {f : Nat}
    (hF : sc_FB D (sc_bad P A ap al az) (sc_S P) f) (h2 : (v < 0 ∨ nI (D f) ≤ v) → ∀ yd, post (-2) ((nI P), (nI (sc_S P)), (nI R), nI A, pw, fr, to, si, be, cr, mo, tt, pa, la, sa, yd, yw, yl))
    (h3 : ∀ d i, D f = d + 1 → i ≤ d → v = nI i → ∀ yd, post (nI (sc_ch (sc_E P R mv sh cw tk) D f d (d - i))) ((nI P), (nI (sc_S P)), (nI R), nI A, pw, fr, to, si, be, cr, mo, tt, pa, la, sa, yd, yw, yl)) : wpY_trace post ((nI P), (nI (sc_S P)), (nI R), nI A, pw, fr, to, si, be, cr, mo, tt, pa, la, sa, yd, yw, yl) v := by
  have hS := sc_S_le B.2.1
  have hDf := hD f
  unfold wpY_trace
  dsimp only
  refine sc_yvio B W Y LA L hD _ (fun yd h => (sc_FB_NB hF h).elim) (fun yd d hd h => ?_)
  have e := sc_FB_LV hF h
  refine br_t (nI_pos' (by omega)) ?_
  rcases pk_ix v (n := d + 1) (by omega) with g | g | ⟨i, hi, rfl⟩
  · exact br_t g (h2 (Or.inl g) yd)
  · refine br_f (sc_out (by omega) g) (br_f ?_ (h2 (Or.inr (by rw [e]; exact g)) yd))
    exact Int32.not_le.mpr (Int32.lt_of_lt_of_le (nI_lt (Nat.lt_succ_self d) (by omega)) g)
  · refine br_f (nI_pos (by omega)) (br_t (nI_le (by omega) (by omega)) ?_)
    refine sc_ylb B W LA hD hd hF e _ (nm_e ?_)
    exact sc_ytr34 B W Y L hD hd e (by omega) post (h3 d i e (by omega) rfl yd)
end
theorem i_vc_reachable {k : Nat} {u : SX} {v : SY} (I : i_Rel k u v) (hk : k + 5 ≤ 2561) : wpX_reachable (fun r => wpY_reachable (fun r' v' => r' = r ∧ i_Rel (k + 5) u v') v) u := by
  obtain ⟨P, R, A, m, mv, sh, cw, tk, ap, al, az, D, q, G, rm, rs, rc, rt, pa, la, sa, re, de, wo, pw, fr, to, si, be, cr, mo, tt, yd, yw, yl, B, X, W, Y, LA, F, hE, hG, hw, rfl, rfl⟩ := I
  have hP4 := B.2.1
  have hS := sc_S_le hP4
  unfold wpX_reachable
  dsimp only
  exact sc_yrea B W Y F.1 F.2.1 _ (fun yd => ⟨by rw [sc_Fin_cn F], sc_mk _ B X W Y LA F hE hG hw⟩)
theorem i_vc_depth {k : Nat} {u : SX} {v : SY} (I : i_Rel k u v) (hk : k + 5 ≤ 2561) (v1 : Int32) : wpX_depth (fun r => wpY_depth (fun r' v' => r' = r ∧ i_Rel (k + 5) u v') v v1) u v1 := by
  obtain ⟨P, R, A, m, mv, sh, cw, tk, ap, al, az, D, q, G, rm, rs, rc, rt, pa, la, sa, re, de, wo, pw, fr, to, si, be, cr, mo, tt, yd, yw, yl, B, X, W, Y, LA, F, hE, hG, hw, rfl, rfl⟩ := I
  have hP4 := B.2.1
  have hS := sc_S_le hP4
  have M := fun yd => sc_mk (yd := yd) (yw := yw) (yl := yl) (k + 5) B X W Y LA F hE hG hw
  unfold wpX_depth wpY_depth
  dsimp only
  rcases pk_ix v1 (n := sc_S P) (by omega) with e | e | ⟨c, hc, rfl⟩
  · exact sc_xic0 hP4 (Or.inl e) _ (sc_bf (sc_ybc1 hP4 (Or.inl e) _ (sc_bt ⟨rfl, M yd⟩)))
  · exact sc_xic0 hP4 (Or.inr e) _ (sc_bf (sc_ybc1 hP4 (Or.inr e) _ (sc_bt ⟨rfl, M yd⟩)))
  · have hin : vp_in (nI c) 1215 := pk_in c 1215 (by omega)
    have hcl : (nI c).toNatClampNeg = c := nI_clamp (by omega)
    have hd1 := hE.2.2 c (by omega)
    have hDc := F.2.1 c
    refine sc_xic1 hP4 hc _ (sc_bt ⟨hin, ?_⟩)
    refine sc_ybc0 hP4 hc _ (sc_bf ?_)
    refine sc_yex B W Y F.1 F.2.1 _ (fun yd hd => ⟨hin, ?_⟩)
    have hd2 := hd c (by omega)
    dsimp only
    rw [hcl, hd1, hd2]
    by_cases z : D c = 0
    · rw [z]
      exact br_f (by decide) ⟨rfl, M yd⟩
    · rw [sc_ye_s z, sc_xe_s z]
      exact br_t (nI_pos' (by omega)) ⟨hin, rfl, M yd⟩
theorem i_vc_radius {k : Nat} {u : SX} {v : SY} (I : i_Rel k u v) (hk : k + 5 ≤ 2561) : wpX_radius (fun r => wpY_radius (fun r' v' => r' = r ∧ i_Rel (k + 5) u v') v) u := by
  obtain ⟨P, R, A, m, mv, sh, cw, tk, ap, al, az, D, q, G, rm, rs, rc, rt, pa, la, sa, re, de, wo, pw, fr, to, si, be, cr, mo, tt, yd, yw, yl, B, X, W, Y, LA, F, hE, hG, hw, rfl, rfl⟩ := I
  have hP4 := B.2.1
  have hS := sc_S_le hP4
  exact sc_xrad hP4 F hE _ (fun g hg => sc_yrad B W Y F.1 F.2.1 _ (fun yd g' hg' => ⟨by rw [sc_Mx_un hg' hg], sc_mk _ B X W Y LA F hE hG hw⟩))
theorem sc_lay1 {S st m : Nat} {E : Nat → Nat → Prop} {D q : Nat → Nat} (F : sc_Fin S st E D q m) {v : Int32} (hv : 0 ≤ v) : sc_cn (fun c => decide (sc_ye (D c) = v)) S = sc_cn (fun j => decide (nI (D (q j) - 1) = v)) m := by
  rw [F.2.2.2.2.2 (fun c => decide (nI (D c - 1) = v))]
  refine sc_cn_ext S (fun i _ => ?_)
  by_cases z : D i = 0
  · have a : sc_ye (D i) ≠ v := by
      rw [z]
      intro e
      rw [← e] at hv
      exact absurd hv (by decide)
    simp [z]
    rw [z] at a
    exact a
  · simp [z, sc_ye_s z]
theorem sc_lay0 {S st m : Nat} {E : Nat → Nat → Prop} {D q : Nat → Nat} (F : sc_Fin S st E D q m) (hS : S ≤ 1215) {v : Int32} (hv : ¬ 0 ≤ v) : sc_cn (fun j => decide (nI (D (q j) - 1) = v)) m = 0 := by
  rw [F.2.2.2.2.2 (fun c => decide (nI (D c - 1) = v))]
  have h : sc_cn (fun c => decide (D c ≠ 0) && decide (nI (D c - 1) = v)) S = sc_cn (fun _ => false) S := by
    refine sc_cn_ext S (fun i _ => ?_)
    have hD := F.2.1 i
    have a : nI (D i - 1) ≠ v := fun e => hv (by rw [← e]; exact nI_pos' (by omega))
    simp [a]
  rw [h, sc_cn_none]
theorem i_vc_layer {k : Nat} {u : SX} {v : SY} (I : i_Rel k u v) (hk : k + 5 ≤ 2561) (v1 : Int32) : wpX_layer (fun r => wpY_layer (fun r' v' => r' = r ∧ i_Rel (k + 5) u v') v v1) u v1 := by
  obtain ⟨P, R, A, m, mv, sh, cw, tk, ap, al, az, D, q, G, rm, rs, rc, rt, pa, la, sa, re, de, wo, pw, fr, to, si, be, cr, mo, tt, yd, yw, yl, B, X, W, Y, LA, F, hE, hG, hw, rfl, rfl⟩ := I
  have hP4 := B.2.1
  have hS := sc_S_le hP4
  refine sc_xlay hP4 F hE v1 _ ?_
  by_cases hv : 0 ≤ v1
  · exact sc_ylay B W Y F.1 F.2.1 v1 hv _ (fun yd => ⟨by rw [sc_lay1 F hv], sc_mk _ B X W Y LA F hE hG hw⟩)
  · unfold wpY_layer
    dsimp only
    exact br_f hv ⟨by rw [sc_lay0 F hS hv]; rfl, sc_mk _ B X W Y LA F hE hG hw⟩
theorem i_vc_badStates {k : Nat} {u : SX} {v : SY} (I : i_Rel k u v) (hk : k + 5 ≤ 2561) : wpX_badStates (fun r => wpY_badStates (fun r' v' => r' = r ∧ i_Rel (k + 5) u v') v) u := by
  obtain ⟨P, R, A, m, mv, sh, cw, tk, ap, al, az, D, q, G, rm, rs, rc, rt, pa, la, sa, re, de, wo, pw, fr, to, si, be, cr, mo, tt, yd, yw, yl, B, X, W, Y, LA, F, hE, hG, hw, rfl, rfl⟩ := I
  have hP4 := B.2.1
  have hS := sc_S_le hP4
  refine sc_xbst B LA F hE _ ?_
  exact sc_ybst B W Y LA F.1 F.2.1 _ (fun yd => ⟨by rw [F.2.2.2.2.2 (fun c => sc_bad P A ap al az c)], sc_mk _ B X W Y LA F hE hG hw⟩)
theorem i_vc_violation {k : Nat} {u : SX} {v : SY} (I : i_Rel k u v) (hk : k + 5 ≤ 2561) : wpX_violation (fun r => wpY_violation (fun r' v' => r' = r ∧ i_Rel (k + 5) u v') v) u := by
  obtain ⟨P, R, A, m, mv, sh, cw, tk, ap, al, az, D, q, G, rm, rs, rc, rt, pa, la, sa, re, de, wo, pw, fr, to, si, be, cr, mo, tt, yd, yw, yl, B, X, W, Y, LA, F, hE, hG, hw, rfl, rfl⟩ := I
  have hP4 := B.2.1
  have hS := sc_S_le hP4
  refine sc_xvio B LA F.2.1 hE _ (fun hn => ?_) (fun f hF => ?_)
  · exact sc_yvio B W Y LA F.1 F.2.1 _ (fun yd _ => ⟨rfl, sc_mk _ B X W Y LA F hE hG hw⟩) (fun yd d _ h => (sc_LV_NB h hn).elim)
  · exact sc_yvio B W Y LA F.1 F.2.1 _ (fun yd h => (sc_FB_NB hF h).elim) (fun yd d _ h => ⟨by rw [sc_FB_LV hF h]; rfl, sc_mk _ B X W Y LA F hE hG hw⟩)
theorem i_vc_stuckStates {k : Nat} {u : SX} {v : SY} (I : i_Rel k u v) (hk : k + 5 ≤ 2561) : wpX_stuckStates (fun r => wpY_stuckStates (fun r' v' => r' = r ∧ i_Rel (k + 5) u v') v) u := by
  obtain ⟨P, R, A, m, mv, sh, cw, tk, ap, al, az, D, q, G, rm, rs, rc, rt, pa, la, sa, re, de, wo, pw, fr, to, si, be, cr, mo, tt, yd, yw, yl, B, X, W, Y, LA, F, hE, hG, hw, rfl, rfl⟩ := I
  have hP4 := B.2.1
  have hS := sc_S_le hP4
  refine sc_xstu B X F hE _ ?_
  exact sc_ystu B W Y F.1 F.2.1 _ (fun yd => ⟨by rw [F.2.2.2.2.2 (fun c => decide (sc_prs P R mv sh cw tk c P = 0))], sc_mk _ B X W Y LA F hE hG hw⟩)
theorem i_vc_choices {k : Nat} {u : SX} {v : SY} (I : i_Rel k u v) (hk : k + 5 ≤ 2561) (v1 : Int32) : wpX_choices (fun r => wpY_choices (fun r' => r' = r ∧ i_Rel (k + 5) u v) v v1) u v1 := by
  obtain ⟨P, R, A, m, mv, sh, cw, tk, ap, al, az, D, q, G, rm, rs, rc, rt, pa, la, sa, re, de, wo, pw, fr, to, si, be, cr, mo, tt, yd, yw, yl, B, X, W, Y, LA, F, hE, hG, hw, rfl, rfl⟩ := I
  have hP4 := B.2.1
  have hS := sc_S_le hP4
  have M := sc_mk (yd := yd) (yw := yw) (yl := yl) (k + 5) B X W Y LA F hE hG hw
  unfold wpX_choices wpY_choices
  dsimp only
  rcases pk_ix v1 (n := sc_S P) (by omega) with e | e | ⟨c, hc, rfl⟩
  · exact sc_xic0 hP4 (Or.inl e) _ (sc_bf (sc_ybc1 hP4 (Or.inl e) _ (sc_bt ⟨rfl, M⟩)))
  · exact sc_xic0 hP4 (Or.inr e) _ (sc_bf (sc_ybc1 hP4 (Or.inr e) _ (sc_bt ⟨rfl, M⟩)))
  · exact sc_xic1 hP4 hc _ (sc_bt (sc_xcc B X c hc _ (sc_ybc0 hP4 hc _ (sc_bf (sc_yprs B W Y c hc _ ⟨rfl, M⟩)))))
theorem i_vc_follows {k : Nat} {u : SX} {v : SY} (I : i_Rel k u v) (hk : k + 5 ≤ 2561) (v1 : Int32) (v2 : Int32) : wpX_follows (fun r => wpY_follows (fun r' => r' = r ∧ i_Rel (k + 5) u v) v v1 v2) u v1 v2 := by
  obtain ⟨P, R, A, m, mv, sh, cw, tk, ap, al, az, D, q, G, rm, rs, rc, rt, pa, la, sa, re, de, wo, pw, fr, to, si, be, cr, mo, tt, yd, yw, yl, B, X, W, Y, LA, F, hE, hG, hw, rfl, rfl⟩ := I
  have hP4 := B.2.1
  have hS := sc_S_le hP4
  have M := sc_mk (yd := yd) (yw := yw) (yl := yl) (k + 5) B X W Y LA F hE hG hw
  unfold wpX_follows wpY_follows
  dsimp only
  rcases pk_ix v1 (n := sc_S P) (by omega) with e | e | ⟨c, hc, rfl⟩
  · exact sc_xic0 hP4 (Or.inl e) _ (sc_bf (sc_ybc1 hP4 (Or.inl e) _ (sc_bt ⟨rfl, M⟩)))
  · exact sc_xic0 hP4 (Or.inr e) _ (sc_bf (sc_ybc1 hP4 (Or.inr e) _ (sc_bt ⟨rfl, M⟩)))
  rcases pk_ix v2 (n := sc_S P) (by omega) with e | e | ⟨d, hd, rfl⟩
  · exact sc_xic1 hP4 hc _ (sc_bt (sc_xic0 hP4 (Or.inl e) _ (sc_bf (sc_ybc0 hP4 hc _ (sc_bf (sc_ybc1 hP4 (Or.inl e) _ (sc_bt ⟨rfl, M⟩)))))))
  · exact sc_xic1 hP4 hc _ (sc_bt (sc_xic0 hP4 (Or.inr e) _ (sc_bf (sc_ybc0 hP4 hc _ (sc_bf (sc_ybc1 hP4 (Or.inr e) _ (sc_bt ⟨rfl, M⟩)))))))
  · refine sc_xic1 hP4 hc _ (sc_bt (sc_xic1 hP4 hd _ (sc_bt ?_)))
    refine sc_xlead B X c d hc _ (fun h => sc_bt ?_) (fun h => sc_bf ?_)
    · refine sc_ybc0 hP4 hc _ (sc_bf (sc_ybc0 hP4 hd _ (sc_bf ?_)))
      exact sc_ylead B W Y c d hc _ (fun _ => sc_bt ⟨rfl, M⟩) (fun h' => absurd h h')
    · refine sc_ybc0 hP4 hc _ (sc_bf (sc_ybc0 hP4 hd _ (sc_bf ?_)))
      exact sc_ylead B W Y c d hc _ (fun h' => absurd h' h) (fun _ => sc_bf ⟨rfl, M⟩)
theorem i_vc_trace {k : Nat} {u : SX} {v : SY} (I : i_Rel k u v) (hk : k + 5 ≤ 2561) (v1 : Int32) : wpX_trace (fun r => wpY_trace (fun r' v' => r' = r ∧ i_Rel (k + 5) u v') v v1) u v1 := by
  obtain ⟨P, R, A, m, mv, sh, cw, tk, ap, al, az, D, q, G, rm, rs, rc, rt, pa, la, sa, re, de, wo, pw, fr, to, si, be, cr, mo, tt, yd, yw, yl, B, X, W, Y, LA, F, hE, hG, hw, rfl, rfl⟩ := I
  have hP4 := B.2.1
  have hS := sc_S_le hP4
  have M := fun yd => sc_mk (yd := yd) (yw := yw) (yl := yl) (k + 5) B X W Y LA F hE hG hw
  refine sc_xtrc B X LA F.1 F.2.1 hE v1 _ (fun hn => ?_) (fun f hF h => ?_) (fun f d i hF hd hi h => ?_)
  · exact sc_ytrN B W Y LA F.1 F.2.1 v1 _ hn (fun yd => ⟨rfl, M yd⟩)
  · refine sc_ytrF B W Y LA F.1 F.2.1 v1 _ hF (fun _ yd => ⟨rfl, M yd⟩) (fun d i hd hi e => ?_)
    exfalso
    have hDf := F.2.1 f
    subst e
    rcases h with h | h
    · exact nI_pos (by omega) h
    · have := (nI_leI (a := D f) (b := i) (by omega) (by omega)).mp h
      omega
  · refine sc_ytrF B W Y LA F.1 F.2.1 v1 _ hF (fun q => ?_) (fun d' i' hd' hi' e => ?_)
    · exfalso
      have hDf := F.2.1 f
      subst h
      rcases q with q | q
      · exact nI_pos (by omega) q
      · have := (nI_leI (a := D f) (b := i) (by omega) (by omega)).mp q
        omega
    · have hDf := F.2.1 f
      have e1 : d' = d := by omega
      have e2 : i' = i := (nI_eq (by omega) (by omega)).mp (e.symm.trans h)
      subst e1 e2
      exact fun yd => ⟨rfl, M yd⟩
theorem i_vc_endless {k : Nat} {u : SX} {v : SY} (I : i_Rel k u v) (hk : k + 5 ≤ 2561) : wpX_endless (fun r => wpY_endless (fun r' v' => r' = r ∧ i_Rel (k + 5) u v') v) u := by
  obtain ⟨P, R, A, m, mv, sh, cw, tk, ap, al, az, D, q, G, rm, rs, rc, rt, pa, la, sa, re, de, wo, pw, fr, to, si, be, cr, mo, tt, yd, yw, yl, B, X, W, Y, LA, F, hE, hG, hw, rfl, rfl⟩ := I
  have hP4 := B.2.1
  have hS := sc_S_le hP4
  have e : sc_cn G (sc_S P) = sc_cn (fun j => G (q j)) m := by
    rw [F.2.2.2.2.2 G]
    refine sc_cn_ext (sc_S P) (fun i _ => ?_)
    cases g : G i with
    | false => simp
    | true => simp [(hG.1 i g).1]
  exact sc_xend hP4 F hE hw _ (sc_yend B W Y F.1 F.2.1 hG _ (fun yd yw yl => ⟨by rw [e], sc_mk _ B X W Y LA F hE hG hw⟩))
