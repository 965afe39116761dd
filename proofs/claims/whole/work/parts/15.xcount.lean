/-! 15: the component's counts; its changes -/
section
variable {P R A m : Nat} {mv sh cw tk ap al az D q : Nat → Nat} {ak nk : Int32} {rm rs rc rt pa la sa re de wo : Nat → Int32}
theorem sc_xic0 {x : Int32} (hP : P ≤ 4) (h : x < 0 ∨ nI (sc_S P) ≤ x) (post : Int32 → Prop) (h0 : post 0) : wpX_isCode post ((nI P), (nI (sc_S P)), (nI R), ak, nk, rm, rs, rc, rt, pa, la, sa, re, de, wo) x := by
  have hS := sc_S_le hP
  rcases h with h | h
  · exact br_t h h0
  · exact br_f (sc_out (by omega) h) (br_t h h0)
theorem sc_xic1 {c : Nat} (hP : P ≤ 4) (hc : c < sc_S P) (post : Int32 → Prop) (h1 : post 1) : wpX_isCode post ((nI P), (nI (sc_S P)), (nI R), ak, nk, rm, rs, rc, rt, pa, la, sa, re, de, wo) (nI c) := by
  have hS := sc_S_le hP
  exact br_f (nI_pos (by omega)) (pk_le (sc_S P) c (fun q => absurd q (by omega)) (fun _ => h1))
theorem sc_xq (hP : P ≤ 4) {E : Nat → Nat → Prop} (F : sc_Fin (sc_S P) (sc_st P) E D q m) (hE : sc_En D q m (nI m) re de) {j : Nat} (hj : j < m) :
    vp_in (nI j) 1215 ∧ re (nI j).toNatClampNeg = nI (q j) ∧ q j < sc_S P ∧ vp_in (nI (q j)) 1215 ∧ (nI (q j)).toNatClampNeg = q j ∧ de (q j) = nI (D (q j) - 1) ∧ D (q j) ≠ 0 ∧ D (q j) ≤ 1215 ∧ m ≤ 1215 := by
  have hS := sc_S_le hP
  have hm := F.2.2.2.2.1
  have h0 := F.2.2.1 j hj
  have hq := F.1.2.2.1 _ h0
  have hD := F.2.1 (q j)
  refine ⟨pk_in j 1215 (by omega), ?_, hq, pk_in (q j) 1215 (by omega), nI_clamp (by omega), ?_, h0, by omega, by omega⟩
  · rw [nI_clamp (by omega)]; exact hE.2.1 j hj
  · rw [hE.2.2 _ (by omega), sc_xe_s h0]
theorem sc_xrad (hP : P ≤ 4) {E : Nat → Nat → Prop} (F : sc_Fin (sc_S P) (sc_st P) E D q m) (hE : sc_En D q m (nI m) re de) (post : Int32 → Prop) (h : ∀ g, sc_Mx D g → post (nI g)) : wpX_radius post ((nI P), (nI (sc_S P)), (nI R), ak, nI m, rm, rs, rc, rt, pa, la, sa, re, de, wo) := by
  have hS := sc_S_le hP
  have hm := F.2.2.2.2.1
  refine pk_loop (fun n i s => wX_radius_4 post (nI P) (nI (sc_S P)) (nI R) ak (nI m) rm rs rc rt pa la sa re de wo n s (nI i)) (fun i s => ∃ g, s = nI g ∧ g ≤ 1215 ∧ (∀ j, j < i → D (q j) ≤ g + 1) ∧ (g = 0 ∨ ∃ c, D c = g + 1)) m 0 0 (Nat.zero_le _) ⟨0, rfl, Nat.zero_le _, fun j hj => absurd hj (Nat.not_lt_zero _), Or.inl rfl⟩ ?_ ?_
  · rintro n s ⟨g, rfl, _, h1, h2⟩
    refine pk_le m m (fun _ => h g ⟨fun c => ?_, h2⟩) (fun q => absurd q (Nat.lt_irrefl _))
    by_cases e : D c = 0
    · omega
    · obtain ⟨j, hj, ej⟩ := F.2.2.2.1 c e
      have := h1 j hj
      rw [ej] at this
      exact this
  · rintro n i s hi ⟨g, rfl, hg, h1, h2⟩ K
    obtain ⟨a1, a2, a3, a4, a5, a6, a7, a8, a9⟩ := sc_xq hP F hE hi
    refine pk_le m i (fun q => absurd q (by omega)) (fun _ => ⟨a1, ?_⟩)
    rw [a2]
    refine ⟨a4, ?_⟩
    rw [a5, a6]
    refine pk_le (D (q i) - 1) g (fun e => ?_) (fun e => ⟨a1, a4, ?_⟩)
    · exact nm_r (nI_1 i) (K _ ⟨g, rfl, hg, lt_s h1 (by omega), h2⟩)
    · refine nm_e (nm_r (nI_1 i) (K _ ⟨D (q i) - 1, rfl, by omega, lt_s (fun b hb => ?_) (by omega), Or.inr ⟨q i, by omega⟩⟩))
      have := h1 b hb
      omega
theorem sc_xlay (hP : P ≤ 4) {E : Nat → Nat → Prop} (F : sc_Fin (sc_S P) (sc_st P) E D q m) (hE : sc_En D q m (nI m) re de) (v : Int32) (post : Int32 → Prop) (h : post (nI (sc_cn (fun j => decide (nI (D (q j) - 1) = v)) m))) : wpX_layer post ((nI P), (nI (sc_S P)), (nI R), ak, nI m, rm, rs, rc, rt, pa, la, sa, re, de, wo) v := by
  have hS := sc_S_le hP
  have hm := F.2.2.2.2.1
  refine pk_loop (fun n i s => wX_layer_4 post v (nI P) (nI (sc_S P)) (nI R) ak (nI m) rm rs rc rt pa la sa re de wo n s (nI i)) (fun i s => s = nI (sc_cn (fun j => decide (nI (D (q j) - 1) = v)) i)) m 0 0 (Nat.zero_le _) rfl ?_ ?_
  · rintro n s rfl
    exact pk_le m m (fun _ => h) (fun q => absurd q (Nat.lt_irrefl _))
  · rintro n i s hi rfl K
    obtain ⟨a1, a2, a3, a4, a5, a6, a7, a8, a9⟩ := sc_xq hP F hE hi
    refine pk_le m i (fun q => absurd q (by omega)) (fun _ => ⟨a1, ?_⟩)
    rw [a2]
    refine ⟨a4, ?_⟩
    rw [a5, a6]
    by_cases z : nI (D (q i) - 1) = v
    · exact br_t z (nm_r (nI_1 _) (nm_r (nI_1 i) (K _ (by rw [sc_cn_t (f := fun j => decide (nI (D (q j) - 1) = v)) (n := i) (decide_eq_true z)]))))
    · exact br_f z (nm_r (nI_1 i) (K _ (by rw [sc_cn_f (f := fun j => decide (nI (D (q j) - 1) = v)) (n := i) (decide_eq_false z)])))
theorem sc_xbst (B : sc_B P R mv sh cw tk) (L : sc_AL A ap al az pa la sa) {E : Nat → Nat → Prop} (F : sc_Fin (sc_S P) (sc_st P) E D q m) (hE : sc_En D q m (nI m) re de) (post : Int32 → Prop) (h : post (nI (sc_cn (fun j => sc_bad P A ap al az (q j)) m))) : wpX_badStates post ((nI P), (nI (sc_S P)), (nI R), nI A, nI m, rm, rs, rc, rt, pa, la, sa, re, de, wo) := by
  have hP := B.2.1
  have hS := sc_S_le hP
  have hm := F.2.2.2.2.1
  refine pk_loop (fun n i s => wX_badStates_4 post (nI P) (nI (sc_S P)) (nI R) (nI A) (nI m) rm rs rc rt pa la sa re de wo n s (nI i)) (fun i s => s = nI (sc_cn (fun j => sc_bad P A ap al az (q j)) i)) m 0 0 (Nat.zero_le _) rfl ?_ ?_
  · rintro n s rfl
    exact pk_le m m (fun _ => h) (fun q => absurd q (Nat.lt_irrefl _))
  · rintro n i s hi rfl K
    obtain ⟨a1, a2, a3, a4, a5, a6, a7, a8, a9⟩ := sc_xq hP F hE hi
    refine pk_le m i (fun q => absurd q (by omega)) (fun _ => ⟨a1, ?_⟩)
    refine sc_xbad B L (q i) a3 _ (fun g => sc_bt ?_) (fun g => sc_bf ?_) (hx := a2)
    · exact nm_r (nI_1 _) (nm_r (nI_1 i) (K _ (by rw [sc_cn_t (f := fun j => sc_bad P A ap al az (q j)) (n := i) g])))
    · exact nm_r (nI_1 i) (K _ (by rw [sc_cn_f (f := fun j => sc_bad P A ap al az (q j)) (n := i) g]))
theorem sc_xstu (B : sc_B P R mv sh cw tk) (X : sc_RX R mv sh cw tk rm rs rc rt) {E : Nat → Nat → Prop} (F : sc_Fin (sc_S P) (sc_st P) E D q m) (hE : sc_En D q m (nI m) re de) (post : Int32 → Prop) (h : post (nI (sc_cn (fun j => decide (sc_prs P R mv sh cw tk (q j) P = 0)) m))) : wpX_stuckStates post ((nI P), (nI (sc_S P)), (nI R), ak, nI m, rm, rs, rc, rt, pa, la, sa, re, de, wo) := by
  have hP := B.2.1
  have hS := sc_S_le hP
  have hm := F.2.2.2.2.1
  refine pk_loop (fun n i s => wX_stuckStates_4 post (nI P) (nI (sc_S P)) (nI R) ak (nI m) rm rs rc rt pa la sa re de wo n s (nI i)) (fun i s => s = nI (sc_cn (fun j => decide (sc_prs P R mv sh cw tk (q j) P = 0)) i)) m 0 0 (Nat.zero_le _) rfl ?_ ?_
  · rintro n s rfl
    exact pk_le m m (fun _ => h) (fun q => absurd q (Nat.lt_irrefl _))
  · rintro n i s hi rfl K
    obtain ⟨a1, a2, a3, a4, a5, a6, a7, a8, a9⟩ := sc_xq hP F hE hi
    have hpr := sc_prs_lt B (q i)
    refine pk_le m i (fun q => absurd q (by omega)) (fun _ => ⟨a1, ?_⟩)
    refine sc_xcc B X (q i) a3 _ ?_ (hx := a2)
    refine pk_eq (sc_prs P R mv sh cw tk (q i) P) 0 (fun g => ?_) (fun g => ?_)
    · exact nm_r (nI_1 _) (nm_r (nI_1 i) (K _ (by rw [sc_cn_t (f := fun j => decide (sc_prs P R mv sh cw tk (q j) P = 0)) (n := i) (decide_eq_true g)])))
    · exact nm_r (nI_1 i) (K _ (by rw [sc_cn_f (f := fun j => decide (sc_prs P R mv sh cw tk (q j) P = 0)) (n := i) (decide_eq_false g)]))
theorem sc_xend (hP : P ≤ 4) {E : Nat → Nat → Prop} (F : sc_Fin (sc_S P) (sc_st P) E D q m) (hE : sc_En D q m (nI m) re de) {G : Nat → Bool} (hw : ∀ c, c < sc_S P → wo c = sc_b (G c)) (post : Int32 → Prop) (h : post (nI (sc_cn (fun j => G (q j)) m))) : wpX_endless post ((nI P), (nI (sc_S P)), (nI R), ak, nI m, rm, rs, rc, rt, pa, la, sa, re, de, wo) := by
  have hS := sc_S_le hP
  have hm := F.2.2.2.2.1
  refine pk_loop (fun n i s => wX_endless_4 post (nI P) (nI (sc_S P)) (nI R) ak (nI m) rm rs rc rt pa la sa re de wo n s (nI i)) (fun i s => s = nI (sc_cn (fun j => G (q j)) i)) m 0 0 (Nat.zero_le _) rfl ?_ ?_
  · rintro n s rfl
    exact pk_le m m (fun _ => h) (fun q => absurd q (Nat.lt_irrefl _))
  · rintro n i s hi rfl K
    obtain ⟨a1, a2, a3, a4, a5, a6, a7, a8, a9⟩ := sc_xq hP F hE hi
    refine pk_le m i (fun q => absurd q (by omega)) (fun _ => ⟨a1, ?_⟩)
    rw [a2]
    refine ⟨a4, ?_⟩
    rw [a5, hw _ a3]
    cases g : G (q i) with
    | true => exact sc_bt (nm_r (nI_1 _) (nm_r (nI_1 i) (K _ (by rw [sc_cn_t (f := fun j => G (q j)) (n := i) g]))))
    | false => exact sc_bf (nm_r (nI_1 i) (K _ (by rw [sc_cn_f (f := fun j => G (q j)) (n := i) g])))
theorem sc_xvio (B : sc_B P R mv sh cw tk) (L : sc_AL A ap al az pa la sa) (hD : ∀ c, D c ≤ sc_S P) (hE : sc_En D q m nk re de) (post : Int32 → Prop)
    (hN : sc_NB D (sc_bad P A ap al az) (sc_S P) → post (-1)) (hF : ∀ f, sc_FB D (sc_bad P A ap al az) (sc_S P) f → post (nI (D f - 1))) : wpX_violation post ((nI P), (nI (sc_S P)), (nI R), nI A, nk, rm, rs, rc, rt, pa, la, sa, re, de, wo) := by
  have hS := sc_S_le B.2.1
  unfold wpX_violation
  dsimp only
  refine sc_xfb B L hD hE _ (fun h => br_f (by decide) (hN h)) (fun f h => ?_)
  have h1 := h.1
  have h2 := hF f h
  refine br_t (nI_pos' (by omega)) ⟨pk_in f 1215 (by omega), ?_⟩
  rw [nI_clamp (by omega), hE.2.2 f (by omega), sc_xe_s h.2.1]
  exact h2
theorem sc_xtrc (B : sc_B P R mv sh cw tk) (X : sc_RX R mv sh cw tk rm rs rc rt) (LA : sc_AL A ap al az pa la sa) (L : sc_Loc (sc_S P) (sc_st P) (sc_E P R mv sh cw tk) D) (hD : ∀ c, D c ≤ sc_S P) (hE : sc_En D q m nk re de) (v : Int32) (post : Int32 → Prop)
    (hN : sc_NB D (sc_bad P A ap al az) (sc_S P) → post (-1)) (h2 : ∀ f, sc_FB D (sc_bad P A ap al az) (sc_S P) f → (v < 0 ∨ nI (D f) ≤ v) → post (-2))
    (h3 : ∀ f d i, sc_FB D (sc_bad P A ap al az) (sc_S P) f → D f = d + 1 → i ≤ d → v = nI i → post (nI (sc_ch (sc_E P R mv sh cw tk) D f d (d - i)))) : wpX_trace post ((nI P), (nI (sc_S P)), (nI R), nI A, nk, rm, rs, rc, rt, pa, la, sa, re, de, wo) v := by
  have hS := sc_S_le B.2.1
  unfold wpX_trace
  dsimp only
  refine sc_xfb B LA hD hE _ (fun h => br_f (by decide) (hN h)) (fun f h => ?_)
  have h1 := h.1
  have hDf := hD f
  obtain ⟨d, hd⟩ : ∃ d, D f = d + 1 := ⟨D f - 1, by have := h.2.1; omega⟩
  refine br_t (nI_pos' (by omega)) ⟨pk_in f 1215 (by omega), nm_r (e' := nI d) (by rw [nI_clamp (by omega), hE.2.2 f (by omega), hd]; rfl) ?_⟩
  rcases pk_ix v (n := d + 1) (by omega) with e | e | ⟨i, hi, rfl⟩
  · exact br_t e (h2 f h (Or.inl e))
  · refine br_f (sc_out (by omega) e) (br_f ?_ (h2 f h (Or.inr (by rw [hd]; exact e))))
    exact Int32.not_le.mpr (Int32.lt_of_lt_of_le (nI_lt (Nat.lt_succ_self d) (by omega)) e)
  · refine br_f (nI_pos (by omega)) (br_t (nI_le (by omega) (by omega)) (nm_e ?_))
    exact sc_xtr35 B X L hD hE hd (by omega) post (h3 f d i h hd (by omega) rfl)
end
