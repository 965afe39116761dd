/-! 14: the reference's questions -/
theorem sc_out {x : Int32} {n : Nat} (hn : n < 2 ^ 31) (h : nI n ≤ x) : ¬ x < 0 := Int32.not_lt.mpr (Int32.le_trans (nI_pos' hn) h)
theorem sc_LV_0 {D : Nat → Nat} {Bd : Nat → Bool} {i : Nat} (h : sc_NB D Bd i) (hd : D i ≠ 0) (hb : Bd i = true) : sc_LV D Bd (i + 1) (D i - 1) := by
  refine ⟨⟨i, Nat.lt_succ_self i, by omega, hb⟩, lt_s (fun b hb' a c => ?_) (fun _ _ => by omega)⟩
  rw [h b hb' a] at c
  exact absurd c (by decide)
theorem sc_LV_k {D : Nat → Nat} {Bd : Nat → Bool} {i d : Nat} (h : sc_LV D Bd i d) (hk : D i ≠ 0 → Bd i = true → d + 1 ≤ D i) : sc_LV D Bd (i + 1) d := by
  obtain ⟨⟨f, f1, f2, f3⟩, h2⟩ := h
  exact ⟨⟨f, by omega, f2, f3⟩, lt_s h2 hk⟩
theorem sc_LV_n {D : Nat → Nat} {Bd : Nat → Bool} {i d : Nat} (h : sc_LV D Bd i d) (hd : D i ≠ 0) (hb : Bd i = true) (hl : D i < d + 1) : sc_LV D Bd (i + 1) (D i - 1) := by
  obtain ⟨⟨f, f1, f2, f3⟩, h2⟩ := h
  refine ⟨⟨i, Nat.lt_succ_self i, by omega, hb⟩, lt_s (fun b hb' a c => ?_) (fun _ _ => by omega)⟩
  have := h2 b hb' a c
  omega
def sc_Mx (D : Nat → Nat) (g : Nat) : Prop := (∀ c, D c ≤ g + 1) ∧ (g = 0 ∨ ∃ c, D c = g + 1)
theorem sc_Mx_un {D : Nat → Nat} {g h : Nat} (a : sc_Mx D g) (b : sc_Mx D h) : g = h := by
  obtain ⟨a1, a2⟩ := a
  obtain ⟨b1, b2⟩ := b
  have x : g ≤ h := by
    rcases a2 with a2 | ⟨c, a2⟩
    · omega
    · have := b1 c; omega
  have y : h ≤ g := by
    rcases b2 with b2 | ⟨c, b2⟩
    · omega
    · have := a1 c; omega
  omega
theorem sc_m1le {g : Nat} (h : g < 2 ^ 31) : (-1 : Int32) ≤ nI g := Int32.le_trans (by decide) (nI_pos' h)
section
variable {P R A m : Nat} {mv sh cw tk ap al az D q : Nat → Nat} {ak : Int32} {pw fr to si be cr mo tt pa la sa yd yw yl : Nat → Int32}
theorem sc_ybc1 {x : Int32} (hP : P ≤ 4) (h : x < 0 ∨ nI (sc_S P) ≤ x) (post : Int32 → Prop) (h1 : post 1) : wpY_badCode post ((nI P), (nI (sc_S P)), (nI R), ak, pw, fr, to, si, be, cr, mo, tt, pa, la, sa, yd, yw, yl) x := by
  have hS := sc_S_le hP
  rcases h with h | h
  · exact br_t h h1
  · exact br_f (sc_out (by omega) h) (br_t h h1)
theorem sc_ybc0 {c : Nat} (hP : P ≤ 4) (hc : c < sc_S P) (post : Int32 → Prop) (h0 : post 0) : wpY_badCode post ((nI P), (nI (sc_S P)), (nI R), ak, pw, fr, to, si, be, cr, mo, tt, pa, la, sa, yd, yw, yl) (nI c) := by
  have hS := sc_S_le hP
  exact br_f (nI_pos (by omega)) (pk_le (sc_S P) c (fun q => absurd q (by omega)) (fun _ => pk_lt c 1215 (fun _ => h0) (fun q => absurd q (by omega))))
theorem sc_yb57 {a c : Nat} (hA : sc_AL A ap al az pa la sa) (hP : P ≤ 4) (ha : a < A) {z : Bool} (hz : z = true ↔ az a = 3 ∨ az a = sc_dg c P) (post : Int32 → Prop) (J : Int32 → Prop) (ht : sc_rg P ap al az c a = true → post 1) (hf : sc_rg P ap al az c a = false → J (nI (a + 1))) :
    wY_bad_57 post J (nI c) (nI a) (nI (sc_cnt c (ap a) P)) (sc_b z) (nI P) (nI (sc_S P)) (nI R) ak pw fr to si be cr mo tt pa la sa yd yw yl := by
  obtain ⟨hA, hL⟩ := hA
  obtain ⟨l1, l2, l3, l4, l5, l6⟩ := hL a ha
  have hcl : (nI a).toNatClampNeg = a := nI_clamp (by omega)
  have hn := sc_cnt_le c (ap a) P
  refine ⟨pk_in a 4 (by omega), ?_⟩
  rw [hcl, l3]
  refine pk_lt (sc_cnt c (ap a) P) (al a) (fun e => nm_r (nI_1 a) (hf (by simp [sc_rg, Nat.not_le.mpr e]))) (fun e => ?_)
  cases z with
  | false =>
    refine sc_bf (nm_r (nI_1 a) (hf ?_))
    have g : ¬ (az a = 3 ∨ az a = sc_dg c P) := fun q => absurd (hz.mpr q) (by decide)
    have g1 : ¬ az a = 3 := fun q => g (Or.inl q)
    have g2 : ¬ az a = sc_dg c P := fun q => g (Or.inr q)
    simp [sc_rg, g1, g2]
  | true =>
    refine sc_bt (ht ?_)
    rcases hz.mp rfl with g | g <;> simp [sc_rg, g, e]
theorem sc_ybad (B : sc_B P R mv sh cw tk) (W : sc_PW pw) (L : sc_AL A ap al az pa la sa) {x : Int32} (c : Nat) (hc : c < sc_S P) (post : Int32 → Prop) (ht : sc_bad P A ap al az c = true → post 1) (hf : sc_bad P A ap al az c = false → post 0) (hx : x = nI c := by rfl) : wpY_bad post ((nI P), (nI (sc_S P)), (nI R), nI A, pw, fr, to, si, be, cr, mo, tt, pa, la, sa, yd, yw, yl) x := by
  subst hx
  have hA := L.1
  have hP4 := B.2.1
  have hS := sc_S_le hP4
  refine pk_loop (fun n i (_ : Unit) => wY_bad_2 post (nI c) (nI P) (nI (sc_S P)) (nI R) (nI A) pw fr to si be cr mo tt pa la sa yd yw yl n (nI i)) (fun i _ => ∀ j, j < i → sc_rg P ap al az c j = false) A 0 () (Nat.zero_le _) (fun j hj => absurd hj (Nat.not_lt_zero _)) ?_ ?_
  · intro n s I
    exact pk_le A A (fun _ => hf (sc_any_f I)) (fun q => absurd q (Nat.lt_irrefl _))
  · intro n i s hi I K
    obtain ⟨l1, l2, l3, l4, l5, l6⟩ := L.2 i hi
    have hcl : (nI i).toNatClampNeg = i := nI_clamp (by omega)
    have hin : vp_in (nI i) 4 := pk_in i 4 (by omega)
    have hd := sc_dg_lt c P
    have h1 : sc_rg P ap al az c i = true → post 1 := fun g => ht ((sc_any_t A).mpr ⟨i, hi, g⟩)
    have h2 : sc_rg P ap al az c i = false → wY_bad_2 post (nI c) (nI P) (nI (sc_S P)) (nI R) (nI A) pw fr to si be cr mo tt pa la sa yd yw yl n (nI (i + 1)) := fun g => K () (lt_s I g)
    refine pk_le A i (fun q => absurd q (by omega)) (fun _ => pk_le 4 i (fun q => absurd q (by omega)) (fun _ => ⟨hin, ?_⟩))
    rw [hcl, l1, l5]
    refine sc_yoth W c P (ap i) _ ⟨hin, ?_⟩ (fun r hr => ⟨fun e => absurd e (sc_nn (by omega) (by decide)), fun e => absurd e (by omega)⟩)
    rw [sc_oth_all]
    refine pk_eq (az i) 3 (fun g => ?_) (fun g => ⟨hin, ?_⟩)
    · exact sc_yb57 L hP4 hi (z := true) ⟨fun _ => Or.inl g, fun _ => rfl⟩ post _ h1 h2
    · refine sc_ysh W c _ ?_
      refine pk_eq (az i) (sc_dg c P) (fun g2 => ?_) (fun g2 => ?_)
      · exact sc_yb57 L hP4 hi (z := true) ⟨fun _ => Or.inr g2, fun _ => rfl⟩ post _ h1 h2
      · exact sc_yb57 L hP4 hi (z := false) ⟨fun e => absurd e (by decide), fun e => by rcases e with e | e; exact absurd e g; exact absurd e g2⟩ post _ h1 h2
theorem sc_yrea (B : sc_B P R mv sh cw tk) (W : sc_PW pw) (Y : sc_RY R mv sh cw tk fr to si be cr mo tt) (L : sc_Loc (sc_S P) (sc_st P) (sc_E P R mv sh cw tk) D) (hD : ∀ c, D c ≤ sc_S P) (post : Int32 → SY → Prop)
    (hP : ∀ yd, post (nI (sc_cn (fun c => decide (D c ≠ 0)) (sc_S P))) ((nI P), (nI (sc_S P)), (nI R), ak, pw, fr, to, si, be, cr, mo, tt, pa, la, sa, yd, yw, yl)) : wpY_reachable post ((nI P), (nI (sc_S P)), (nI R), ak, pw, fr, to, si, be, cr, mo, tt, pa, la, sa, yd, yw, yl) := by
  have hS := sc_S_le B.2.1
  unfold wpY_reachable
  dsimp only
  refine sc_yex B W Y L hD _ (fun yd hd => ?_)
  refine pk_loop (fun n i s => wY_reachable_8 post (nI P) (nI (sc_S P)) (nI R) ak pw fr to si be cr mo tt pa la sa yd yw yl n s (nI i)) (fun i s => s = nI (sc_cn (fun c => decide (D c ≠ 0)) i)) (sc_S P) 0 0 (Nat.zero_le _) rfl ?_ ?_
  · rintro n s rfl
    exact pk_le (sc_S P) (sc_S P) (fun _ => hP yd) (fun q => absurd q (Nat.lt_irrefl _))
  · rintro n i s hi rfl K
    have hDi := hD i
    refine pk_le (sc_S P) i (fun q => absurd q (by omega)) (fun _ => pk_le 1215 i (fun q => absurd q (by omega)) (fun _ => ⟨pk_in i 1215 (by omega), ?_⟩))
    rw [nI_clamp (show i < 2 ^ 31 by omega), hd i (by omega)]
    by_cases z : D i = 0
    · exact br_t ((sc_ye_0 (by omega)).mpr z) (nm_r (nI_1 i) (K _ (by rw [sc_cn_f (f := fun c => decide (D c ≠ 0)) (n := i) (by simp [z])])))
    · exact br_f (fun q => z ((sc_ye_0 (by omega)).mp q)) (nm_r (nI_1 _) (nm_r (nI_1 i) (K _ (by rw [sc_cn_t (f := fun c => decide (D c ≠ 0)) (n := i) (by simp [z])]))))
theorem sc_yrad (B : sc_B P R mv sh cw tk) (W : sc_PW pw) (Y : sc_RY R mv sh cw tk fr to si be cr mo tt) (L : sc_Loc (sc_S P) (sc_st P) (sc_E P R mv sh cw tk) D) (hD : ∀ c, D c ≤ sc_S P) (post : Int32 → SY → Prop)
    (hP : ∀ yd g, sc_Mx D g → post (nI g) ((nI P), (nI (sc_S P)), (nI R), ak, pw, fr, to, si, be, cr, mo, tt, pa, la, sa, yd, yw, yl)) : wpY_radius post ((nI P), (nI (sc_S P)), (nI R), ak, pw, fr, to, si, be, cr, mo, tt, pa, la, sa, yd, yw, yl) := by
  have hS := sc_S_le B.2.1
  unfold wpY_radius
  dsimp only
  refine sc_yex B W Y L hD _ (fun yd hd => ?_)
  refine pk_loop (fun n i s => wY_radius_8 post (nI P) (nI (sc_S P)) (nI R) ak pw fr to si be cr mo tt pa la sa yd yw yl n s (nI i)) (fun i s => ∃ g, s = nI g ∧ g ≤ sc_S P ∧ (∀ b, b < i → D b ≤ g + 1) ∧ (g = 0 ∨ ∃ b, D b = g + 1)) (sc_S P) 0 0 (Nat.zero_le _) ⟨0, rfl, Nat.zero_le _, fun b hb => absurd hb (Nat.not_lt_zero _), Or.inl rfl⟩ ?_ ?_
  · rintro n s ⟨g, rfl, _, h1, h2⟩
    refine pk_le (sc_S P) (sc_S P) (fun _ => hP yd g ⟨fun c => ?_, h2⟩) (fun q => absurd q (Nat.lt_irrefl _))
    by_cases e : D c = 0
    · omega
    · exact h1 c (L.2.2.1 c e)
  · rintro n i s hi ⟨g, rfl, hg, h1, h2⟩ K
    have hDi := hD i
    have hin : vp_in (nI i) 1215 := pk_in i 1215 (by omega)
    have hcl : (nI i).toNatClampNeg = i := nI_clamp (by omega)
    refine pk_le (sc_S P) i (fun q => absurd q (by omega)) (fun _ => pk_le 1215 i (fun q => absurd q (by omega)) (fun _ => ⟨hin, ?_⟩))
    rw [hcl, hd i (by omega)]
    by_cases z : D i = 0
    · rw [z]
      exact br_t (sc_m1le (by omega)) (nm_r (nI_1 i) (K _ ⟨g, rfl, hg, lt_s h1 (by omega), h2⟩))
    · rw [sc_ye_s z]
      refine pk_le (D i - 1) g (fun e => ?_) (fun e => ⟨hin, ?_⟩)
      · exact nm_r (nI_1 i) (K _ ⟨g, rfl, hg, lt_s h1 (by omega), h2⟩)
      · refine nm_e (nm_r (nI_1 i) (K _ ⟨D i - 1, rfl, by omega, lt_s (fun b hb => ?_) (by omega), Or.inr ⟨i, by omega⟩⟩))
        have := h1 b hb
        omega
theorem sc_ylay (B : sc_B P R mv sh cw tk) (W : sc_PW pw) (Y : sc_RY R mv sh cw tk fr to si be cr mo tt) (L : sc_Loc (sc_S P) (sc_st P) (sc_E P R mv sh cw tk) D) (hD : ∀ c, D c ≤ sc_S P) (v : Int32) (hv : 0 ≤ v) (post : Int32 → SY → Prop)
    (hP : ∀ yd, post (nI (sc_cn (fun c => decide (sc_ye (D c) = v)) (sc_S P))) ((nI P), (nI (sc_S P)), (nI R), ak, pw, fr, to, si, be, cr, mo, tt, pa, la, sa, yd, yw, yl)) : wpY_layer post ((nI P), (nI (sc_S P)), (nI R), ak, pw, fr, to, si, be, cr, mo, tt, pa, la, sa, yd, yw, yl) v := by
  have hS := sc_S_le B.2.1
  unfold wpY_layer
  dsimp only
  refine br_t hv (sc_yex B W Y L hD _ (fun yd hd => ?_))
  refine pk_loop (fun n i s => wY_layer_14 post v (nI P) (nI (sc_S P)) (nI R) ak pw fr to si be cr mo tt pa la sa yd yw yl n s (nI i)) (fun i s => s = nI (sc_cn (fun c => decide (sc_ye (D c) = v)) i)) (sc_S P) 0 0 (Nat.zero_le _) rfl ?_ ?_
  · rintro n s rfl
    exact pk_le (sc_S P) (sc_S P) (fun _ => hP yd) (fun q => absurd q (Nat.lt_irrefl _))
  · rintro n i s hi rfl K
    refine pk_le (sc_S P) i (fun q => absurd q (by omega)) (fun _ => pk_le 1215 i (fun q => absurd q (by omega)) (fun _ => ⟨pk_in i 1215 (by omega), ?_⟩))
    rw [nI_clamp (show i < 2 ^ 31 by omega), hd i (by omega)]
    by_cases z : sc_ye (D i) = v
    · exact br_t z (nm_r (nI_1 _) (nm_r (nI_1 i) (K _ (by rw [sc_cn_t (f := fun c => decide (sc_ye (D c) = v)) (n := i) (decide_eq_true z)]))))
    · exact br_f z (nm_r (nI_1 i) (K _ (by rw [sc_cn_f (f := fun c => decide (sc_ye (D c) = v)) (n := i) (decide_eq_false z)])))
theorem sc_ybst (B : sc_B P R mv sh cw tk) (W : sc_PW pw) (Y : sc_RY R mv sh cw tk fr to si be cr mo tt) (LA : sc_AL A ap al az pa la sa) (L : sc_Loc (sc_S P) (sc_st P) (sc_E P R mv sh cw tk) D) (hD : ∀ c, D c ≤ sc_S P) (post : Int32 → SY → Prop)
    (hP : ∀ yd, post (nI (sc_cn (fun c => decide (D c ≠ 0) && sc_bad P A ap al az c) (sc_S P))) ((nI P), (nI (sc_S P)), (nI R), nI A, pw, fr, to, si, be, cr, mo, tt, pa, la, sa, yd, yw, yl)) : wpY_badStates post ((nI P), (nI (sc_S P)), (nI R), nI A, pw, fr, to, si, be, cr, mo, tt, pa, la, sa, yd, yw, yl) := by
  have hS := sc_S_le B.2.1
  unfold wpY_badStates
  dsimp only
  refine sc_yex B W Y L hD _ (fun yd hd => ?_)
  refine pk_loop (fun n i s => wY_badStates_8 post (nI P) (nI (sc_S P)) (nI R) (nI A) pw fr to si be cr mo tt pa la sa yd yw yl n s (nI i)) (fun i s => s = nI (sc_cn (fun c => decide (D c ≠ 0) && sc_bad P A ap al az c) i)) (sc_S P) 0 0 (Nat.zero_le _) rfl ?_ ?_
  · rintro n s rfl
    exact pk_le (sc_S P) (sc_S P) (fun _ => hP yd) (fun q => absurd q (Nat.lt_irrefl _))
  · rintro n i s hi rfl K
    have hDi := hD i
    refine pk_le (sc_S P) i (fun q => absurd q (by omega)) (fun _ => pk_le 1215 i (fun q => absurd q (by omega)) (fun _ => ⟨pk_in i 1215 (by omega), ?_⟩))
    rw [nI_clamp (show i < 2 ^ 31 by omega), hd i (by omega)]
    by_cases z : D i = 0
    · exact br_t ((sc_ye_0 (by omega)).mpr z) (nm_r (nI_1 i) (K _ (by rw [sc_cn_f (f := fun c => decide (D c ≠ 0) && sc_bad P A ap al az c) (n := i) (by simp [z])])))
    · refine br_f (fun q => z ((sc_ye_0 (by omega)).mp q)) (sc_ybad B W LA i hi _ (fun g => sc_bt ?_) (fun g => sc_bf ?_))
      · exact nm_r (nI_1 _) (nm_r (nI_1 i) (K _ (by rw [sc_cn_t (f := fun c => decide (D c ≠ 0) && sc_bad P A ap al az c) (n := i) (by simp [z, g])])))
      · exact nm_r (nI_1 i) (K _ (by rw [sc_cn_f (f := fun c => decide (D c ≠ 0) && sc_bad P A ap al az c) (n := i) (by simp [g])]))
theorem sc_ystu (B : sc_B P R mv sh cw tk) (W : sc_PW pw) (Y : sc_RY R mv sh cw tk fr to si be cr mo tt) (L : sc_Loc (sc_S P) (sc_st P) (sc_E P R mv sh cw tk) D) (hD : ∀ c, D c ≤ sc_S P) (post : Int32 → SY → Prop)
    (hP : ∀ yd, post (nI (sc_cn (fun c => decide (D c ≠ 0) && decide (sc_prs P R mv sh cw tk c P = 0)) (sc_S P))) ((nI P), (nI (sc_S P)), (nI R), ak, pw, fr, to, si, be, cr, mo, tt, pa, la, sa, yd, yw, yl)) : wpY_stuckStates post ((nI P), (nI (sc_S P)), (nI R), ak, pw, fr, to, si, be, cr, mo, tt, pa, la, sa, yd, yw, yl) := by
  have hS := sc_S_le B.2.1
  unfold wpY_stuckStates
  dsimp only
  refine sc_yex B W Y L hD _ (fun yd hd => ?_)
  refine pk_loop (fun n i s => wY_stuckStates_8 post (nI P) (nI (sc_S P)) (nI R) ak pw fr to si be cr mo tt pa la sa yd yw yl n s (nI i)) (fun i s => s = nI (sc_cn (fun c => decide (D c ≠ 0) && decide (sc_prs P R mv sh cw tk c P = 0)) i)) (sc_S P) 0 0 (Nat.zero_le _) rfl ?_ ?_
  · rintro n s rfl
    exact pk_le (sc_S P) (sc_S P) (fun _ => hP yd) (fun q => absurd q (Nat.lt_irrefl _))
  · rintro n i s hi rfl K
    have hDi := hD i
    have hpr := sc_prs_lt B i
    refine pk_le (sc_S P) i (fun q => absurd q (by omega)) (fun _ => pk_le 1215 i (fun q => absurd q (by omega)) (fun _ => ⟨pk_in i 1215 (by omega), ?_⟩))
    rw [nI_clamp (show i < 2 ^ 31 by omega), hd i (by omega)]
    by_cases z : D i = 0
    · exact br_t ((sc_ye_0 (by omega)).mpr z) (nm_r (nI_1 i) (K _ (by rw [sc_cn_f (f := fun c => decide (D c ≠ 0) && decide (sc_prs P R mv sh cw tk c P = 0)) (n := i) (by simp [z])])))
    · refine br_f (fun q => z ((sc_ye_0 (by omega)).mp q)) (sc_yprs B W Y i hi _ ?_)
      refine pk_eq (sc_prs P R mv sh cw tk i P) 0 (fun g => ?_) (fun g => ?_)
      · exact nm_r (nI_1 _) (nm_r (nI_1 i) (K _ (by rw [sc_cn_t (f := fun c => decide (D c ≠ 0) && decide (sc_prs P R mv sh cw tk c P = 0)) (n := i) (by simp [z, g])])))
      · exact nm_r (nI_1 i) (K _ (by rw [sc_cn_f (f := fun c => decide (D c ≠ 0) && decide (sc_prs P R mv sh cw tk c P = 0)) (n := i) (by simp [g])]))
theorem sc_yvio (B : sc_B P R mv sh cw tk) (W : sc_PW pw) (Y : sc_RY R mv sh cw tk fr to si be cr mo tt) (LA : sc_AL A ap al az pa la sa) (L : sc_Loc (sc_S P) (sc_st P) (sc_E P R mv sh cw tk) D) (hD : ∀ c, D c ≤ sc_S P) (post : Int32 → SY → Prop)
    (hN : ∀ yd, sc_NB D (sc_bad P A ap al az) (sc_S P) → post (-1) ((nI P), (nI (sc_S P)), (nI R), nI A, pw, fr, to, si, be, cr, mo, tt, pa, la, sa, yd, yw, yl)) (hV : ∀ yd d, (∀ x, x < 1215 → yd x = sc_ye (D x)) → sc_LV D (sc_bad P A ap al az) (sc_S P) d → post (nI d) ((nI P), (nI (sc_S P)), (nI R), nI A, pw, fr, to, si, be, cr, mo, tt, pa, la, sa, yd, yw, yl)) : wpY_violation post ((nI P), (nI (sc_S P)), (nI R), nI A, pw, fr, to, si, be, cr, mo, tt, pa, la, sa, yd, yw, yl) := by
  have hS := sc_S_le B.2.1
  unfold wpY_violation
  dsimp only
  refine sc_yex B W Y L hD _ (fun yd hd => ?_)
  refine pk_loop (fun n i s => wY_violation_8 post (nI P) (nI (sc_S P)) (nI R) (nI A) pw fr to si be cr mo tt pa la sa yd yw yl n s (nI i)) (fun i s => (s = -1 ∧ sc_NB D (sc_bad P A ap al az) i) ∨ ∃ d, s = nI d ∧ d ≤ sc_S P ∧ sc_LV D (sc_bad P A ap al az) i d) (sc_S P) 0 (-1) (Nat.zero_le _) (Or.inl ⟨rfl, fun b hb => absurd hb (Nat.not_lt_zero _)⟩) ?_ ?_
  · rintro n s (⟨rfl, h⟩ | ⟨d, rfl, _, h⟩)
    · exact pk_le (sc_S P) (sc_S P) (fun _ => hN yd h) (fun q => absurd q (Nat.lt_irrefl _))
    · exact pk_le (sc_S P) (sc_S P) (fun _ => hV yd d hd h) (fun q => absurd q (Nat.lt_irrefl _))
  · intro n i s hi I K
    have hcl : (nI i).toNatClampNeg = i := nI_clamp (by omega)
    have hin : vp_in (nI i) 1215 := pk_in i 1215 (by omega)
    have hDi := hD i
    have keep : (D i ≠ 0 → sc_bad P A ap al az i = false) → wY_violation_8 post (nI P) (nI (sc_S P)) (nI R) (nI A) pw fr to si be cr mo tt pa la sa yd yw yl n s (nI (i + 1)) := fun hk => K s (by
      rcases I with ⟨e, h⟩ | ⟨d, e, e2, h⟩
      · exact Or.inl ⟨e, lt_s h hk⟩
      · exact Or.inr ⟨d, e, e2, sc_LV_k h (fun a b => absurd ((hk a).symm.trans b) (by decide))⟩)
    refine pk_le (sc_S P) i (fun q => absurd q (by omega)) (fun _ => pk_le 1215 i (fun q => absurd q (by omega)) (fun _ => ⟨hin, ?_⟩))
    rw [hcl, hd i (by omega)]
    by_cases z : D i = 0
    · exact br_t ((sc_ye_0 (by omega)).mpr z) (nm_r (nI_1 i) (keep (fun q => absurd z q)))
    · refine br_f (fun q => z ((sc_ye_0 (by omega)).mp q)) ?_
      refine sc_ybad B W LA i hi _ (fun g => sc_bt ?_) (fun g => sc_bf (nm_r (nI_1 i) (keep (fun _ => g))))
      rw [sc_ye_s z]
      rcases I with ⟨rfl, h⟩ | ⟨d, rfl, hd2, h⟩
      · exact br_t (by decide) ⟨hin, nm_e (nm_r (nI_1 i) (K (nI (D i - 1)) (Or.inr ⟨D i - 1, rfl, by omega, sc_LV_0 h z g⟩)))⟩
      · refine br_f (nI_pos (by omega)) ⟨hin, ?_⟩
        refine pk_le d (D i - 1) (fun e => ?_) (fun e => ⟨hin, ?_⟩)
        · exact nm_r (nI_1 i) (K (nI d) (Or.inr ⟨d, rfl, hd2, sc_LV_k h (fun _ _ => by omega)⟩))
        · exact nm_e (nm_r (nI_1 i) (K (nI (D i - 1)) (Or.inr ⟨D i - 1, rfl, by omega, sc_LV_n h z g (by omega)⟩)))
theorem sc_ylb (B : sc_B P R mv sh cw tk) (W : sc_PW pw) (LA : sc_AL A ap al az pa la sa) (hD : ∀ c, D c ≤ sc_S P) (hE : ∀ x, x < 1215 → yd x = sc_ye (D x)) {f d : Nat} (hF : sc_FB D (sc_bad P A ap al az) (sc_S P) f) (hd : D f = d + 1) (post : Int32 → Prop)
    (hP : post (nI f)) : wpY_leastBad post ((nI P), (nI (sc_S P)), (nI R), nI A, pw, fr, to, si, be, cr, mo, tt, pa, la, sa, yd, yw, yl) (nI d) := by
  have hS := sc_S_le B.2.1
  have hDf := hD f
  refine pk_loop (fun n i (_ : Unit) => wY_leastBad_2 post (nI d) (nI P) (nI (sc_S P)) (nI R) (nI A) pw fr to si be cr mo tt pa la sa yd yw yl n (nI i)) (fun i _ => ∀ j, j < i → ¬ (D j = d + 1 ∧ sc_bad P A ap al az j = true)) (sc_S P) 0 () (Nat.zero_le _) (fun j hj => absurd hj (Nat.not_lt_zero _)) ?_ ?_
  · intro n s I
    exact absurd ⟨hd, hF.2.2.1⟩ (I f hF.1)
  · intro n i s hi I K
    have hcl : (nI i).toNatClampNeg = i := nI_clamp (by omega)
    have hDi := hD i
    refine pk_le (sc_S P) i (fun q => absurd q (by omega)) (fun _ => pk_le 1215 i (fun q => absurd q (by omega)) (fun _ => ⟨pk_in i 1215 (by omega), ?_⟩))
    rw [hcl, hE i (by omega)]
    by_cases z : D i = d + 1
    · refine br_t ((sc_ye_eq (by omega) (by omega)).mpr z) ?_
      refine sc_ybad B W LA i hi _ (fun g => sc_bt ?_) (fun g => sc_bf (nm_r (nI_1 i) (K () (lt_s I (fun q => absurd (g.symm.trans q.2) (by decide))))))
      rw [sc_FB_least hF hd hi z g I]
      exact hP
    · exact br_f (fun q => z ((sc_ye_eq (by omega) (by omega)).mp q)) (nm_r (nI_1 i) (K () (lt_s I (fun q => z q.1))))
theorem sc_ylbf (B : sc_B P R mv sh cw tk) (W : sc_PW pw) (Y : sc_RY R mv sh cw tk fr to si be cr mo tt) (hD : ∀ c, D c ≤ sc_S P) (hE : ∀ x, x < 1215 → yd x = sc_ye (D x)) {x y : Int32} (e d : Nat) (hx : x = nI e) (hy : y = nI d) (he : e < sc_S P) (hd : d < 2 ^ 31)
    (hex : ∃ b, b < sc_S P ∧ D b = d + 1 ∧ sc_E P R mv sh cw tk b e) (post : Int32 → Prop)
    (hF : ∀ b, b < sc_S P → D b = d + 1 → sc_E P R mv sh cw tk b e → (∀ j, j < b → ¬ (D j = d + 1 ∧ sc_E P R mv sh cw tk j e)) → post (nI b)) : wpY_leastBefore post ((nI P), (nI (sc_S P)), (nI R), ak, pw, fr, to, si, be, cr, mo, tt, pa, la, sa, yd, yw, yl) y x := by
  subst hx hy
  have hS := sc_S_le B.2.1
  refine pk_loop (fun n i (_ : Unit) => wY_leastBefore_2 post (nI d) (nI e) (nI P) (nI (sc_S P)) (nI R) ak pw fr to si be cr mo tt pa la sa yd yw yl n (nI i)) (fun i _ => ∀ j, j < i → ¬ (D j = d + 1 ∧ sc_E P R mv sh cw tk j e)) (sc_S P) 0 () (Nat.zero_le _) (fun j hj => absurd hj (Nat.not_lt_zero _)) ?_ ?_
  · intro n s I
    obtain ⟨b, hb, h⟩ := hex
    exact absurd h (I b hb)
  · intro n i s hi I K
    have hcl : (nI i).toNatClampNeg = i := nI_clamp (by omega)
    have hDi := hD i
    refine pk_le (sc_S P) i (fun q => absurd q (by omega)) (fun _ => pk_le 1215 i (fun q => absurd q (by omega)) (fun _ => ⟨pk_in i 1215 (by omega), ?_⟩))
    rw [hcl, hE i (by omega)]
    by_cases z : D i = d + 1
    · refine br_t ((sc_ye_eq (by omega) hd).mpr z) ?_
      exact sc_ylead B W Y i e hi _ (fun g => sc_bt (hF i hi z g I)) (fun g => sc_bf (nm_r (nI_1 i) (K () (lt_s I (fun q => g q.2)))))
    · exact br_f (fun q => z ((sc_ye_eq (by omega) hd).mp q)) (nm_r (nI_1 i) (K () (lt_s I (fun q => z q.1))))
theorem sc_ytr34 (B : sc_B P R mv sh cw tk) (W : sc_PW pw) (Y : sc_RY R mv sh cw tk fr to si be cr mo tt) (L : sc_Loc (sc_S P) (sc_st P) (sc_E P R mv sh cw tk) D) (hD : ∀ c, D c ≤ sc_S P) (hE : ∀ x, x < 1215 → yd x = sc_ye (D x)) {f d i : Nat} (hf : D f = d + 1) (hi : i ≤ d) (post : Int32 → SY → Prop)
    (h : post (nI (sc_ch (sc_E P R mv sh cw tk) D f d (d - i))) ((nI P), (nI (sc_S P)), (nI R), ak, pw, fr, to, si, be, cr, mo, tt, pa, la, sa, yd, yw, yl)) : ∃ n, wY_trace_34 post (nI i) (nI P) (nI (sc_S P)) (nI R) ak pw fr to si be cr mo tt pa la sa yd yw yl n (nI f) (nI d - 1) := by
  have hS := sc_S_le B.2.1
  have hDf := hD f
  refine pk_loop (fun n k s => wY_trace_34 post (nI i) (nI P) (nI (sc_S P)) (nI R) ak pw fr to si be cr mo tt pa la sa yd yw yl n s (nI (d - k) - 1)) (fun k s => s = nI (sc_ch (sc_E P R mv sh cw tk) D f d k) ∧ D (sc_ch (sc_E P R mv sh cw tk) D f d k) = d - k + 1) (d - i) 0 (nI f) (Nat.zero_le _) ⟨rfl, hf⟩ ?_ ?_
  · rintro n s ⟨rfl, _⟩
    rw [show d - (d - i) = i by omega]
    exact br_t (sc_lt1 i (by omega)) h
  · rintro n k s hk ⟨rfl, I⟩ K
    obtain ⟨t, ht⟩ : ∃ t, d - k = t + 1 := ⟨d - k - 1, by omega⟩
    have hlt := L.2.2.1 (sc_ch (sc_E P R mv sh cw tk) D f d k) (by omega)
    show wY_trace_34 post (nI i) (nI P) (nI (sc_S P)) (nI R) ak pw fr to si be cr mo tt pa la sa yd yw yl (n + 1) (nI (sc_ch (sc_E P R mv sh cw tk) D f d k)) (nI (d - k) - 1)
    rw [ht, nI_pred]
    refine br_f (nI_nlt (by omega) (by omega)) ?_
    obtain ⟨b, hb1, hb2⟩ := L.2.2.2.1 _ t (show D (sc_ch (sc_E P R mv sh cw tk) D f d k) = t + 2 by omega)
    refine sc_ylbf B W Y hD hE (sc_ch (sc_E P R mv sh cw tk) D f d k) t rfl rfl hlt (by omega) ⟨b, L.2.2.1 b (by omega), hb1, hb2⟩ _ (fun b1 c1 c2 c3 c4 => ?_)
    have hc : sc_ch (sc_E P R mv sh cw tk) D f d (k + 1) = b1 := by
      show sc_lst (fun b => D b = d - k ∧ sc_E P R mv sh cw tk b (sc_ch (sc_E P R mv sh cw tk) D f d k)) = b1
      rw [ht]
      exact sc_lst_eq ⟨c2, c3⟩ c4
    refine nm_r (e' := nI (d - (k + 1)) - 1) (by rw [sc_m1, show d - (k + 1) = t by omega]) (K (nI b1) ⟨by rw [hc], by rw [hc]; omega⟩)
end
