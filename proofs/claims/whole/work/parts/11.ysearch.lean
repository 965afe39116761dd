/-! 11: the reference's search -/
def sc_SP (P R : Nat) (mv sh cw tk : Nat → Nat) (D : Nat → Nat) (d c : Nat) (T0 T : Nat → Nat) (z : Bool) (p i : Nat) : Prop :=
  sc_YI D d T ∧ (∀ x, T0 x ≠ 0 → T x = T0 x) ∧ (z = false → ∀ x, T x = T0 x) ∧
  (∀ p' i', p' < p → i' < R → sc_can P mv sh cw tk c p' i' = true → T (sc_aft P mv sh tk c p' i') ≠ 0) ∧
  (∀ i', i' < i → sc_can P mv sh cw tk c p i' = true → T (sc_aft P mv sh tk c p i') ≠ 0)
theorem sc_SP_0 {P R : Nat} {mv sh cw tk D : Nat → Nat} {d c : Nat} {T : Nat → Nat} (h : sc_YI D d T) : sc_SP P R mv sh cw tk D d c T T false 0 0 :=
  ⟨h, fun _ _ => rfl, fun _ _ => rfl, fun _ _ h => absurd h (Nat.not_lt_zero _), fun _ h => absurd h (Nat.not_lt_zero _)⟩
theorem sc_SP_row {P R : Nat} {mv sh cw tk D : Nat → Nat} {d c : Nat} {T0 T : Nat → Nat} {z : Bool} {p : Nat} (h : sc_SP P R mv sh cw tk D d c T0 T z p R) : sc_SP P R mv sh cw tk D d c T0 T z (p + 1) 0 := by
  obtain ⟨h1, h2, h3, h4, h5⟩ := h
  refine ⟨h1, h2, h3, fun p' i' hp hi hc => ?_, fun _ h => absurd h (Nat.not_lt_zero _)⟩
  by_cases e : p' = p
  · subst e; exact h5 i' hi hc
  · exact h4 p' i' (by omega) hi hc
theorem sc_SP_no {P R : Nat} {mv sh cw tk D : Nat → Nat} {d c : Nat} {T0 T : Nat → Nat} {z : Bool} {p i : Nat} (h : sc_SP P R mv sh cw tk D d c T0 T z p i) (hc : sc_can P mv sh cw tk c p i = true → T (sc_aft P mv sh tk c p i) ≠ 0) : sc_SP P R mv sh cw tk D d c T0 T z p (i + 1) := by
  obtain ⟨h1, h2, h3, h4, h5⟩ := h
  exact ⟨h1, h2, h3, h4, lt_s h5 hc⟩
theorem sc_SP_new {P R : Nat} {mv sh cw tk D : Nat → Nat} {d c : Nat} {T0 T : Nat → Nat} {z : Bool} {p i : Nat} (L : sc_Loc (sc_S P) (sc_st P) (sc_E P R mv sh cw tk) D) (h : sc_SP P R mv sh cw tk D d c T0 T z p i) (hT : T0 c = d + 1) (hp : p < P) (hi : i < R)
    (hc : sc_can P mv sh cw tk c p i = true) (h0 : T (sc_aft P mv sh tk c p i) = 0) : sc_SP P R mv sh cw tk D d c T0 (sc_up T (sc_aft P mv sh tk c p i) (d + 2)) true p (i + 1) := by
  obtain ⟨h1, h2, h3, h4, h5⟩ := h
  have s1 := sc_YI_set L h1 ((h2 c (by omega)).trans hT) ⟨p, hp, i, hi, hc, rfl⟩ h0
  have s2 : ∀ x, T x ≠ 0 → sc_up T (sc_aft P mv sh tk c p i) (d + 2) x = T x := fun x hx => sc_up_n (fun e => hx (by rw [e]; exact h0))
  have s3 : sc_up T (sc_aft P mv sh tk c p i) (d + 2) (sc_aft P mv sh tk c p i) ≠ 0 := by rw [sc_up_s]; omega
  refine ⟨s1, fun x hx => ?_, fun e => absurd e (by decide), fun p' i' a b e => ?_, fun i' a e => ?_⟩
  · have a := h2 x hx
    rw [s2 x (by rw [a]; exact hx)]; exact a
  · have a := h4 p' i' a b e
    rw [s2 _ a]; exact a
  · by_cases q : i' = i
    · subst q; exact s3
    · have a := h5 i' (by omega) e
      rw [s2 _ a]; exact a
theorem sc_YI_le {D : Nat → Nat} {d : Nat} {T : Nat → Nat} (h : sc_YI D d T) (c : Nat) : T c ≤ D c := by
  obtain ⟨h1, h2, h3⟩ := h c
  by_cases a : D c ≤ d + 1
  · have := h1 a; omega
  · by_cases b : D c = d + 2
    · rcases h2 b with x | x <;> omega
    · have := h3 (by omega); omega
section
variable {P R : Nat} {mv sh cw tk : Nat → Nat} {ak : Int32} {pw fr to si be cr mo tt pa la sa yd yw yl : Nat → Int32}
theorem sc_yspr17 (B : sc_B P R mv sh cw tk) (W : sc_PW pw) (Y : sc_RY R mv sh cw tk fr to si be cr mo tt) {D T0 T1 : Nat → Nat} {d c p : Nat} {z1 : Bool} (L : sc_Loc (sc_S P) (sc_st P) (sc_E P R mv sh cw tk) D) (hD : ∀ c, D c ≤ sc_S P) (hc : c < sc_S P) (hT : T0 c = d + 1) (hp : p < P)
    (h1 : sc_SP P R mv sh cw tk D d c T0 T1 z1 p 0) (hE : ∀ x, x < 1215 → yd x = sc_ye (T1 x)) (post : Int32 → SY → Prop) (J : Int32 → Int32 → (Nat → Int32) → (Nat → Int32) → (Nat → Int32) → (Nat → Int32) → (Nat → Int32) → (Nat → Int32) → (Nat → Int32) → (Nat → Int32) → (Nat → Int32) → (Nat → Int32) → (Nat → Int32) → (Nat → Int32) → (Nat → Int32) → (Nat → Int32) → Prop)
    (hJ : ∀ T z yd, sc_SP P R mv sh cw tk D d c T0 T z p R → (∀ x, x < 1215 → yd x = sc_ye (T x)) → J (sc_b z) (nI (p + 1)) pw fr to si be cr mo tt pa la sa yd yw yl) : ∃ n, wY_spread_17 post J (nI c) (nI d) (nI p) (nI P) (nI (sc_S P)) (nI R) ak n (sc_b z1) 0 pw fr to si be cr mo tt pa la sa yd yw yl := by
  have hR := B.2.2.1
  have hS := sc_S_le B.2.1
  refine pk_loop (fun n i (s : Int32 × (Nat → Int32)) => wY_spread_17 post J (nI c) (nI d) (nI p) (nI P) (nI (sc_S P)) (nI R) ak n s.1 (nI i) pw fr to si be cr mo tt pa la sa s.2 yw yl) (fun i s => ∃ T z, s.1 = sc_b z ∧ sc_SP P R mv sh cw tk D d c T0 T z p i ∧ ∀ x, x < 1215 → s.2 x = sc_ye (T x)) R 0 (sc_b z1, yd) (Nat.zero_le _) ⟨T1, z1, rfl, h1, hE⟩ ?_ ?_
  · rintro n ⟨x, yd⟩ ⟨T, z, rfl, g, hE⟩
    exact pk_le R R (fun _ => nm_r (nI_1 p) (hJ T z yd g hE)) (fun q => absurd q (Nat.lt_irrefl _))
  · rintro n i ⟨x, yd⟩ hi ⟨T, z, rfl, g, hE⟩ K
    dsimp only at hE
    refine pk_le R i (fun q => absurd q (by omega)) (fun _ => pk_le 12 i (fun q => absurd q (by omega)) (fun _ => ?_))
    refine sc_ycan B W Y hc hp hi _ (fun gc => sc_bt ?_) (fun gc => sc_bf ?_)
    · have hl := sc_aft_lt mv sh tk i hp hc
      have hcl : (nI (sc_aft P mv sh tk c p i)).toNatClampNeg = sc_aft P mv sh tk c p i := nI_clamp (by omega)
      refine sc_ytak B W Y hc hp hi _ (br_f (nI_pos (by omega)) (pk_le 1215 (sc_aft P mv sh tk c p i) (fun q => absurd q (by omega)) (fun _ => ⟨pk_in (sc_aft P mv sh tk c p i) 1215 (by omega), ?_⟩)))
      dsimp only
      rw [hcl, hE _ (by omega)]
      by_cases q : T (sc_aft P mv sh tk c p i) = 0
      · rw [q]
        refine br_f (by decide) ⟨pk_in (sc_aft P mv sh tk c p i) 1215 (by omega), nm_e (nm_r (nI_1 i) (K (1, _) ⟨_, true, rfl, sc_SP_new L g hT hp hi gc q, fun x hx => ?_⟩))⟩
        show upd yd _ (nI d + 1) x = _
        rw [nI_1]
        by_cases e : x = sc_aft P mv sh tk c p i
        · rw [e, pk_us, sc_up_s]; rfl
        · rw [pk_un e, sc_up_n e]; exact hE x hx
      · rw [sc_ye_s q]
        exact br_t (nI_pos' (by have := sc_YI_le g.1 (sc_aft P mv sh tk c p i); have := hD (sc_aft P mv sh tk c p i); omega)) (nm_r (nI_1 i) (K (sc_b z, yd) ⟨T, z, rfl, sc_SP_no g (fun _ => q), hE⟩))
    · exact nm_r (nI_1 i) (K (sc_b z, yd) ⟨T, z, rfl, sc_SP_no g (fun q => absurd (gc.symm.trans q) Bool.false_ne_true), hE⟩)
theorem sc_nb (z : Bool) : narrow .boolean (.int (sc_b z)) = .int (sc_b z) := by
  cases z <;> rfl
theorem sc_yspr (B : sc_B P R mv sh cw tk) (W : sc_PW pw) (Y : sc_RY R mv sh cw tk fr to si be cr mo tt) {D T0 : Nat → Nat} {d c : Nat} (L : sc_Loc (sc_S P) (sc_st P) (sc_E P R mv sh cw tk) D) (hD : ∀ c, D c ≤ sc_S P) (hc : c < sc_S P) (hT : T0 c = d + 1)
    (h1 : sc_YI D d T0) (hE : ∀ x, x < 1215 → yd x = sc_ye (T0 x)) (post : Int32 → SY → Prop)
    (hP : ∀ T z yd, sc_SP P R mv sh cw tk D d c T0 T z P 0 → (∀ x, x < 1215 → yd x = sc_ye (T x)) → post (sc_b z) ((nI P), (nI (sc_S P)), (nI R), ak, pw, fr, to, si, be, cr, mo, tt, pa, la, sa, yd, yw, yl)) : wpY_spread post ((nI P), (nI (sc_S P)), (nI R), ak, pw, fr, to, si, be, cr, mo, tt, pa, la, sa, yd, yw, yl) (nI c) (nI d) := by
  have hP4 := B.2.1
  refine pk_loop (fun n i (s : Int32 × (Nat → Int32)) => wY_spread_5 post (nI c) (nI d) (nI P) (nI (sc_S P)) (nI R) ak n s.1 (nI i) pw fr to si be cr mo tt pa la sa s.2 yw yl) (fun p s => ∃ T z, s.1 = sc_b z ∧ sc_SP P R mv sh cw tk D d c T0 T z p 0 ∧ ∀ x, x < 1215 → s.2 x = sc_ye (T x)) P 0 (0, yd) (Nat.zero_le _) ⟨T0, false, rfl, sc_SP_0 h1, hE⟩ ?_ ?_
  · rintro n ⟨x, yd⟩ ⟨T, z, rfl, g, hE⟩
    exact pk_le P P (fun _ => ⟨sc_nb z, hP T z yd g hE⟩) (fun q => absurd q (Nat.lt_irrefl _))
  · rintro n p ⟨x, yd⟩ hp ⟨T, z, rfl, g, hE⟩ K
    exact pk_le P p (fun q => absurd q (by omega)) (fun _ => sc_yspr17 B W Y L hD hc hT hp g hE post _ (fun T z yd g hE => K (sc_b z, yd) ⟨T, z, rfl, sc_SP_row g, hE⟩))
theorem sc_yex52 (B : sc_B P R mv sh cw tk) (W : sc_PW pw) (Y : sc_RY R mv sh cw tk fr to si be cr mo tt) {D T0 : Nat → Nat} {d : Nat} (L : sc_Loc (sc_S P) (sc_st P) (sc_E P R mv sh cw tk) D) (hD : ∀ c, D c ≤ sc_S P) (hd : d < sc_S P)
    (h1 : sc_YS D d T0) (hE : ∀ x, x < 1215 → yd x = sc_ye (T0 x)) (post : SY → Prop) (J : Int32 → Int32 → Int32 → Int32 → Int32 → Int32 → (Nat → Int32) → (Nat → Int32) → (Nat → Int32) → (Nat → Int32) → (Nat → Int32) → (Nat → Int32) → (Nat → Int32) → (Nat → Int32) → (Nat → Int32) → (Nat → Int32) → (Nat → Int32) → (Nat → Int32) → (Nat → Int32) → (Nat → Int32) → Prop)
    (hJ : ∀ T z yd, ((z = true ∧ sc_YS D (d + 1) T) ∨ (z = false ∧ ∀ x, T x = D x)) → (∀ x, x < 1215 → yd x = sc_ye (T x)) → J (sc_b z) (nI (d + 1)) (nI P) (nI (sc_S P)) (nI R) ak pw fr to si be cr mo tt pa la sa yd yw yl) : ∃ n, wY_explore_52 post J (nI d) n 0 0 (nI P) (nI (sc_S P)) (nI R) ak pw fr to si be cr mo tt pa la sa yd yw yl := by
  have hS := sc_S_le B.2.1
  refine pk_loop (fun n i (s : Int32 × (Nat → Int32)) => wY_explore_52 post J (nI d) n s.1 (nI i) (nI P) (nI (sc_S P)) (nI R) ak pw fr to si be cr mo tt pa la sa s.2 yw yl) (fun c s => ∃ T z, s.1 = sc_b z ∧ sc_YI D d T ∧ (∀ x, x < 1215 → s.2 x = sc_ye (T x)) ∧ (z = false → ∀ x, T x ≤ d + 1) ∧ (∀ b, b < c → D b = d + 1 → ∀ e, sc_E P R mv sh cw tk b e → T e ≠ 0)) (sc_S P) 0 (0, yd) (Nat.zero_le _)
    ⟨T0, false, rfl, sc_YS_I h1, hE, fun _ x => ?_, fun b hb => absurd hb (Nat.not_lt_zero _)⟩ ?_ ?_
  · by_cases a : D x ≤ d + 1
    · rw [(h1 x).1 a]; exact a
    · rw [(h1 x).2 (by omega)]; omega
  · rintro n ⟨x, yd⟩ ⟨T, z, rfl, g, hE, hz, hx⟩
    refine pk_le (sc_S P) (sc_S P) (fun _ => nm_r (nI_1 d) (hJ T z yd ?_ hE)) (fun q => absurd q (Nat.lt_irrefl _))
    have hY := sc_YI_end L g hx
    cases z with
    | true => exact Or.inl ⟨rfl, hY⟩
    | false => exact Or.inr ⟨rfl, sc_YS_done L hY (hz rfl)⟩
  · rintro n c ⟨x, yd⟩ hc ⟨T, z, rfl, g, hE, hz, hx⟩ K
    dsimp only at hE
    have hcl : (nI c).toNatClampNeg = c := nI_clamp (by omega)
    have hTc : T c < 2 ^ 31 := by have := sc_YI_le g c; have := hD c; omega
    refine pk_le (sc_S P) c (fun q => absurd q (by omega)) (fun _ => pk_le 1215 c (fun q => absurd q (by omega)) (fun _ => ⟨pk_in c 1215 (by omega), ?_⟩))
    by_cases e : T c = d + 1
    · refine br_t (by dsimp only; rw [hcl, hE c (by omega)]; exact (sc_ye_eq hTc (by omega)).mpr e) ?_
      refine sc_yspr B W Y L hD hc e g hE _ (fun T' z' yd' g' hE' => ?_)
      have nx : ∀ b, b < c + 1 → D b = d + 1 → ∀ e, sc_E P R mv sh cw tk b e → T' e ≠ 0 := by
        refine lt_s (fun b hb hDb y hy => ?_) (fun _ y hy => ?_)
        · have a := hx b hb hDb y hy
          rw [g'.2.1 y a]; exact a
        · obtain ⟨p, hp, i, hi, hcn, rfl⟩ := hy
          exact g'.2.2.2.1 p i hp hi hcn
      cases z' with
      | true => exact sc_bt (nm_r (nI_1 c) (K (1, yd') ⟨T', true, rfl, g'.1, hE', fun q => absurd q (by decide), nx⟩))
      | false => exact sc_bf (nm_r (nI_1 c) (K (sc_b z, yd') ⟨T', z, rfl, g'.1, hE', fun q x => by rw [g'.2.2.1 rfl x]; exact hz q x, nx⟩))
    · refine br_f (fun q => e ((sc_ye_eq hTc (by omega)).mp (by rw [← hE c (by omega)]; rw [hcl] at q; exact q))) (nm_r (nI_1 c) (K (sc_b z, yd) ⟨T, z, rfl, g, hE, hz, lt_s hx (fun q => absurd ((g c).1 (by omega)) (by omega))⟩))
theorem sc_yex36 (B : sc_B P R mv sh cw tk) (W : sc_PW pw) (Y : sc_RY R mv sh cw tk fr to si be cr mo tt) {D T0 : Nat → Nat} (L : sc_Loc (sc_S P) (sc_st P) (sc_E P R mv sh cw tk) D) (hD : ∀ c, D c ≤ sc_S P)
    (h1 : sc_YS D 0 T0) (hE : ∀ x, x < 1215 → yd x = sc_ye (T0 x)) (post : SY → Prop)
    (hP : ∀ yd, (∀ x, x < 1215 → yd x = sc_ye (D x)) → post ((nI P), (nI (sc_S P)), (nI R), ak, pw, fr, to, si, be, cr, mo, tt, pa, la, sa, yd, yw, yl)) : ∃ n, wY_explore_36 post n 1 0 (nI P) (nI (sc_S P)) (nI R) ak pw fr to si be cr mo tt pa la sa yd yw yl := by
  have hS := sc_S_le B.2.1
  refine pk_loop (fun n i (s : Int32 × (Nat → Int32)) => wY_explore_36 post n s.1 (nI i) (nI P) (nI (sc_S P)) (nI R) ak pw fr to si be cr mo tt pa la sa s.2 yw yl) (fun d s => ∃ T z, s.1 = sc_b z ∧ ((z = true ∧ sc_YS D d T) ∨ (z = false ∧ ∀ x, T x = D x)) ∧ (∀ x, x < 1215 → s.2 x = sc_ye (T x))) (sc_S P) 0 (1, yd) (Nat.zero_le _)
    ⟨T0, true, rfl, Or.inl ⟨rfl, h1⟩, hE⟩ ?_ ?_
  · rintro n ⟨x, yd⟩ ⟨T, z, rfl, h, hE⟩
    refine pk_le (sc_S P) (sc_S P) (fun _ => hP yd (fun x hx => ?_)) (fun q => absurd q (Nat.lt_irrefl _))
    rcases h with ⟨_, h⟩ | ⟨_, h⟩
    · rw [← sc_YS_top h hD x]; exact hE x hx
    · rw [← h x]; exact hE x hx
  · rintro n d ⟨x, yd⟩ hd ⟨T, z, rfl, h, hE⟩ K
    refine pk_le (sc_S P) d (fun q => absurd q (by omega)) (fun _ => ?_)
    rcases h with ⟨rfl, h⟩ | ⟨rfl, h⟩
    · exact sc_bt (sc_yex52 B W Y L hD hd h hE post _ (fun T z yd h hE => K (sc_b z, yd) ⟨T, z, rfl, h, hE⟩))
    · exact sc_bf (hP yd (fun x hx => by rw [← h x]; exact hE x hx))
theorem sc_yex (B : sc_B P R mv sh cw tk) (W : sc_PW pw) (Y : sc_RY R mv sh cw tk fr to si be cr mo tt) {D : Nat → Nat} (L : sc_Loc (sc_S P) (sc_st P) (sc_E P R mv sh cw tk) D) (hD : ∀ c, D c ≤ sc_S P) (post : SY → Prop)
    (hP : ∀ yd, (∀ x, x < 1215 → yd x = sc_ye (D x)) → post ((nI P), (nI (sc_S P)), (nI R), ak, pw, fr, to, si, be, cr, mo, tt, pa, la, sa, yd, yw, yl)) : wpY_explore post ((nI P), (nI (sc_S P)), (nI R), ak, pw, fr, to, si, be, cr, mo, tt, pa, la, sa, yd, yw, yl) := by
  have hS := sc_S_le B.2.1
  have hP4 := B.2.1
  have hs := sc_st_lt P
  refine pk_loop (fun n i s => wY_explore_2 post (nI P) (nI (sc_S P)) (nI R) ak n (nI i) pw fr to si be cr mo tt pa la sa s yw yl) (fun i s => ∀ c, c < i → s c = -1) 1215 0 yd (Nat.zero_le _) (fun j hj => absurd hj (Nat.not_lt_zero _)) ?_ ?_
  · intro n s I
    have hcl : (nI P + 1).toNatClampNeg = P + 1 := by rw [nI_1]; exact nI_clamp (by omega)
    refine pk_le 1215 1215 (fun _ => ⟨pk_in (P + 1) 6 (by omega) (nI_1 P), ?_⟩) (fun q => absurd q (Nat.lt_irrefl _))
    rw [hcl, W (P + 1) (by omega), pk_mul, show 3 ^ (P + 1) * P = sc_st P from Nat.mul_comm _ _]
    refine ⟨pk_in (sc_st P) 1215 (by omega), nm_e ?_⟩
    rw [nI_clamp (show sc_st P < 2 ^ 31 by omega)]
    refine sc_yex36 B W Y L hD (sc_YS_0 L) (fun c hc => ?_) post hP
    by_cases e : c = sc_st P
    · rw [e, pk_us, sc_up_s]; rfl
    · rw [pk_un e, sc_up_n e]; exact I c hc
  · intro n i s hi I K
    refine pk_le 1215 i (fun q => absurd q (by omega)) (fun _ => ⟨pk_in i 1215 (by omega), nm_e (nm_r (nI_1 i) (K _ ?_))⟩)
    rw [nI_clamp (by omega)]
    exact lt_s (fun a ha => by rw [pk_un (by omega)]; exact I a ha) pk_us
end
