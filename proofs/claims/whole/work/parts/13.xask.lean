/-! 13: the component's questions -/
noncomputable def sc_lst (Q : Nat → Prop) : Nat := Classical.epsilon (fun k => Q k ∧ ∀ j, j < k → ¬ Q j)
theorem sc_lst_eq {Q : Nat → Prop} {b : Nat} (h : Q b) (hl : ∀ j, j < b → ¬ Q j) : sc_lst Q = b := by
  have s := Classical.epsilon_spec (p := fun k => Q k ∧ ∀ j, j < k → ¬ Q j) ⟨b, h, hl⟩
  have s1 : Q (sc_lst Q) := s.1
  have s2 : ∀ j, j < sc_lst Q → ¬ Q j := s.2
  have a : ¬ b < sc_lst Q := fun q => s2 b q h
  have c : ¬ sc_lst Q < b := fun q => hl _ q s1
  omega
noncomputable def sc_ch (E : Nat → Nat → Prop) (D : Nat → Nat) (f d : Nat) : Nat → Nat
  | 0 => f
  | k + 1 => sc_lst (fun b => D b = d - k ∧ E b (sc_ch E D f d k))
theorem sc_prs_lt {P R : Nat} {mv sh cw tk : Nat → Nat} (B : sc_B P R mv sh cw tk) (c : Nat) : sc_prs P R mv sh cw tk c P < 2 ^ 31 := by
  have h := sc_prs_le P R mv sh cw tk c P
  have h2 : P * R ≤ 4 * 12 := Nat.mul_le_mul B.2.1 B.2.2.1
  omega
theorem sc_lt1 (i : Nat) (h : i < 2 ^ 31) : nI i - 1 < nI i := by
  cases i with
  | zero => decide
  | succ i => rw [nI_pred]; exact nI_lt (by omega) h
section
variable {P R A m : Nat} {mv sh cw tk ap al az D q : Nat → Nat} {ak nk : Int32} {rm rs rc rt pa la sa re de wo : Nat → Int32}
theorem sc_xrg33 (B : sc_B P R mv sh cw tk) (L : sc_AL A ap al az pa la sa) {a c : Nat} (ha : a < A) (hc : c < sc_S P) (g : az a = 3 ∨ az a = sc_dg c P) (post : Int32 → Prop) (ht : sc_rg P ap al az c a = true → post 1) (hf : sc_rg P ap al az c a = false → post 0) : wX_rings_33 post (nI a) (nI c) (nI P) (nI (sc_S P)) (nI R) ak nk rm rs rc rt pa la sa re de wo := by
  obtain ⟨hP1, hP4, hR, hB⟩ := B
  obtain ⟨hA, hL⟩ := L
  obtain ⟨l1, l2, l3, l4, l5, l6⟩ := hL a ha
  have hS := sc_S_le hP4
  have hcl : (nI a).toNatClampNeg = a := nI_clamp (by omega)
  have hin : vp_in (nI a) 4 := pk_in a 4 (by omega)
  have hn := sc_cnt_le c (ap a) P
  refine ⟨hin, ?_⟩
  rw [hcl, l1, l3]
  refine sc_xcnt c (ap a) _ ⟨hin, ?_⟩
  refine pk_lt (sc_cnt c (ap a) P) (al a) (fun e => hf ?_) (fun e => ht ?_)
  · simp [sc_rg, Nat.not_le.mpr e]
  · rcases g with g | g <;> simp [sc_rg, g, e]
theorem sc_xrg (B : sc_B P R mv sh cw tk) (L : sc_AL A ap al az pa la sa) {a c : Nat} (ha : a < A) (hc : c < sc_S P) (post : Int32 → Prop) (ht : sc_rg P ap al az c a = true → post 1) (hf : sc_rg P ap al az c a = false → post 0) : wpX_rings post ((nI P), (nI (sc_S P)), (nI R), ak, nk, rm, rs, rc, rt, pa, la, sa, re, de, wo) (nI a) (nI c) := by
  have B' := B
  have L' := L
  obtain ⟨hP1, hP4, hR, hB⟩ := B
  obtain ⟨hA, hL⟩ := L
  obtain ⟨l1, l2, l3, l4, l5, l6⟩ := hL a ha
  have hS := sc_S_le hP4
  have hcl : (nI a).toNatClampNeg = a := nI_clamp (by omega)
  have hin : vp_in (nI a) 4 := pk_in a 4 (by omega)
  have hd := sc_dg_lt c P
  unfold wpX_rings
  dsimp only
  refine sc_xwd c P _ ⟨by decide, nm_r (sc_r3 (by omega) P) ⟨hin, ?_⟩⟩
  rw [hcl, l5]
  refine pk_eq (az a) 3 (fun g => ?_) (fun g => ⟨hin, ?_⟩)
  · exact sc_xrg33 B' L' ha hc (Or.inl g) post ht hf
  · refine pk_eq (az a) (sc_dg c P) (fun g2 => ?_) (fun g2 => hf (by simp [sc_rg, g, g2]))
    exact sc_xrg33 B' L' ha hc (Or.inr g2) post ht hf
theorem sc_xbad (B : sc_B P R mv sh cw tk) (L : sc_AL A ap al az pa la sa) {x : Int32} (c : Nat) (hc : c < sc_S P) (post : Int32 → Prop) (ht : sc_bad P A ap al az c = true → post 1) (hf : sc_bad P A ap al az c = false → post 0) (hx : x = nI c := by rfl) : wpX_isBad post ((nI P), (nI (sc_S P)), (nI R), nI A, nk, rm, rs, rc, rt, pa, la, sa, re, de, wo) x := by
  subst hx
  have hA := L.1
  refine pk_loop (fun n i (_ : Unit) => wX_isBad_2 post (nI c) (nI P) (nI (sc_S P)) (nI R) (nI A) nk rm rs rc rt pa la sa re de wo n (nI i)) (fun i _ => ∀ j, j < i → sc_rg P ap al az c j = false) A 0 () (Nat.zero_le _) (fun j hj => absurd hj (Nat.not_lt_zero _)) ?_ ?_
  · intro n s I
    exact pk_le A A (fun _ => hf (sc_any_f I)) (fun q => absurd q (Nat.lt_irrefl _))
  · intro n i s hi I K
    refine pk_le A i (fun q => absurd q (by omega)) (fun _ => ?_)
    exact sc_xrg B L hi hc _ (fun g => sc_bt (ht ((sc_any_t A).mpr ⟨i, hi, g⟩))) (fun g => sc_bf (nm_r (nI_1 i) (K () (lt_s I g))))
theorem sc_FB_0 {D : Nat → Nat} {Bd : Nat → Bool} {i : Nat} (h : sc_NB D Bd i) (hd : D i ≠ 0) (hb : Bd i = true) : sc_FB D Bd (i + 1) i := by
  refine ⟨Nat.lt_succ_self i, hd, hb, lt_s (fun b hb' a c => ?_) (fun _ _ => Or.inr ⟨rfl, Nat.le_refl _⟩)⟩
  rw [h b hb' a] at c
  exact absurd c (by decide)
theorem sc_FB_k {D : Nat → Nat} {Bd : Nat → Bool} {i f : Nat} (h : sc_FB D Bd i f) (hk : D i ≠ 0 → Bd i = true → D f ≤ D i) : sc_FB D Bd (i + 1) f := by
  obtain ⟨h1, h2, h3, h4⟩ := h
  exact ⟨by omega, h2, h3, lt_s h4 (fun a b => by have := hk a b; omega)⟩
theorem sc_FB_n {D : Nat → Nat} {Bd : Nat → Bool} {i f : Nat} (h : sc_FB D Bd i f) (hd : D i ≠ 0) (hb : Bd i = true) (hl : D i < D f) : sc_FB D Bd (i + 1) i := by
  obtain ⟨h1, h2, h3, h4⟩ := h
  refine ⟨Nat.lt_succ_self i, hd, hb, lt_s (fun b hb' a c => ?_) (fun _ _ => Or.inr ⟨rfl, Nat.le_refl _⟩)⟩
  rcases h4 b hb' a c with x | x <;> omega
theorem sc_xfb (B : sc_B P R mv sh cw tk) (L : sc_AL A ap al az pa la sa) (hD : ∀ c, D c ≤ sc_S P) (hE : sc_En D q m nk re de) (post : Int32 → Prop)
    (hN : sc_NB D (sc_bad P A ap al az) (sc_S P) → post (-1)) (hF : ∀ f, sc_FB D (sc_bad P A ap al az) (sc_S P) f → post (nI f)) : wpX_firstBad post ((nI P), (nI (sc_S P)), (nI R), nI A, nk, rm, rs, rc, rt, pa, la, sa, re, de, wo) := by
  have hS := sc_S_le B.2.1
  refine pk_loop (fun n i s => wX_firstBad_4 post (nI P) (nI (sc_S P)) (nI R) (nI A) nk rm rs rc rt pa la sa re de wo n s (nI i)) (fun i s => (s = -1 ∧ sc_NB D (sc_bad P A ap al az) i) ∨ ∃ f, s = nI f ∧ sc_FB D (sc_bad P A ap al az) i f) (sc_S P) 0 (-1) (Nat.zero_le _) (Or.inl ⟨rfl, fun b hb => absurd hb (Nat.not_lt_zero _)⟩) ?_ ?_
  · rintro n s (⟨rfl, h⟩ | ⟨f, rfl, h⟩)
    · exact pk_le (sc_S P) (sc_S P) (fun _ => hN h) (fun q => absurd q (Nat.lt_irrefl _))
    · exact pk_le (sc_S P) (sc_S P) (fun _ => hF f h) (fun q => absurd q (Nat.lt_irrefl _))
  · intro n i s hi I K
    have hcl : (nI i).toNatClampNeg = i := nI_clamp (by omega)
    have hin : vp_in (nI i) 1215 := pk_in i 1215 (by omega)
    have hDi := hD i
    have keep : (D i ≠ 0 → sc_bad P A ap al az i = false) → wX_firstBad_4 post (nI P) (nI (sc_S P)) (nI R) (nI A) nk rm rs rc rt pa la sa re de wo n s (nI (i + 1)) := fun hk => K s (by
      rcases I with ⟨e, h⟩ | ⟨f, e, h⟩
      · exact Or.inl ⟨e, lt_s h hk⟩
      · exact Or.inr ⟨f, e, sc_FB_k h (fun a b => absurd ((hk a).symm.trans b) (by decide))⟩)
    refine pk_le (sc_S P) i (fun q => absurd q (by omega)) (fun _ => ⟨hin, ?_⟩)
    rw [hcl, hE.2.2 i (by omega)]
    by_cases z : D i = 0
    · exact br_t ((sc_xe_0 (by omega)).mpr z) (nm_r (nI_1 i) (keep (fun q => absurd z q)))
    · refine br_f (fun q => z ((sc_xe_0 (by omega)).mp q)) ?_
      refine sc_xbad B L i hi _ (fun g => sc_bt ?_) (fun g => sc_bf (nm_r (nI_1 i) (keep (fun _ => g))))
      rcases I with ⟨rfl, h⟩ | ⟨f, rfl, h⟩
      · exact br_t (by decide) (nm_r (nI_1 i) (K (nI i) (Or.inr ⟨i, rfl, sc_FB_0 h z g⟩)))
      · have hf1 := h.1
        have hf2 := h.2.1
        have hDf := hD f
        refine br_f (nI_pos (by omega)) ⟨hin, pk_in f 1215 (by omega), ?_⟩
        rw [nI_clamp (show f < 2 ^ 31 by omega), hE.2.2 f (by omega), sc_xe_s z, sc_xe_s hf2]
        refine pk_le (D f - 1) (D i - 1) (fun e => ?_) (fun e => ?_)
        · exact nm_r (nI_1 i) (K (nI f) (Or.inr ⟨f, rfl, sc_FB_k h (fun _ _ => by omega)⟩))
        · exact nm_r (nI_1 i) (K (nI i) (Or.inr ⟨i, rfl, sc_FB_n h z g (by omega)⟩))
theorem sc_xlb (B : sc_B P R mv sh cw tk) (X : sc_RX R mv sh cw tk rm rs rc rt) (hD : ∀ c, D c ≤ sc_S P) (hE : sc_En D q m nk re de) {x y : Int32} (e d : Nat) (hx : x = nI e) (hy : y = nI d) (he : e < sc_S P) (hd : d < 2 ^ 31)
    (hex : ∃ b, b < sc_S P ∧ D b = d + 1 ∧ sc_E P R mv sh cw tk b e) (post : Int32 → Prop)
    (hF : ∀ b, b < sc_S P → D b = d + 1 → sc_E P R mv sh cw tk b e → (∀ j, j < b → ¬ (D j = d + 1 ∧ sc_E P R mv sh cw tk j e)) → post (nI b)) : wpX_leastBefore post ((nI P), (nI (sc_S P)), (nI R), ak, nk, rm, rs, rc, rt, pa, la, sa, re, de, wo) x y := by
  subst hx hy
  have hS := sc_S_le B.2.1
  refine pk_loop (fun n i (_ : Unit) => wX_leastBefore_2 post (nI e) (nI d) (nI P) (nI (sc_S P)) (nI R) ak nk rm rs rc rt pa la sa re de wo n (nI i)) (fun i _ => ∀ j, j < i → ¬ (D j = d + 1 ∧ sc_E P R mv sh cw tk j e)) (sc_S P) 0 () (Nat.zero_le _) (fun j hj => absurd hj (Nat.not_lt_zero _)) ?_ ?_
  · intro n s I
    obtain ⟨b, hb, h⟩ := hex
    exact absurd h (I b hb)
  · intro n i s hi I K
    have hcl : (nI i).toNatClampNeg = i := nI_clamp (by omega)
    have hDi := hD i
    refine pk_le (sc_S P) i (fun q => absurd q (by omega)) (fun _ => ⟨pk_in i 1215 (by omega), ?_⟩)
    rw [hcl, hE.2.2 i (by omega)]
    by_cases z : D i = d + 1
    · refine br_t ((sc_xe_eq (by omega) hd).mpr z) ?_
      exact sc_xlead B X i e hi _ (fun g => sc_bt (hF i hi z g I)) (fun g => sc_bf (nm_r (nI_1 i) (K () (lt_s I (fun q => g q.2)))))
    · exact br_f (fun q => z ((sc_xe_eq (by omega) hd).mp q)) (nm_r (nI_1 i) (K () (lt_s I (fun q => z q.1))))
theorem sc_xtr35 (B : sc_B P R mv sh cw tk) (X : sc_RX R mv sh cw tk rm rs rc rt) (L : sc_Loc (sc_S P) (sc_st P) (sc_E P R mv sh cw tk) D) (hD : ∀ c, D c ≤ sc_S P) (hE : sc_En D q m nk re de) {f d i : Nat} (hf : D f = d + 1) (hi : i ≤ d) (post : Int32 → Prop)
    (h : post (nI (sc_ch (sc_E P R mv sh cw tk) D f d (d - i)))) : ∃ n, wX_trace_35 post (nI i) (nI P) (nI (sc_S P)) (nI R) ak nk rm rs rc rt pa la sa re de wo n (nI f) (nI d - 1) := by
  have hS := sc_S_le B.2.1
  have hDf := hD f
  refine pk_loop (fun n k s => wX_trace_35 post (nI i) (nI P) (nI (sc_S P)) (nI R) ak nk rm rs rc rt pa la sa re de wo n s (nI (d - k) - 1)) (fun k s => s = nI (sc_ch (sc_E P R mv sh cw tk) D f d k) ∧ D (sc_ch (sc_E P R mv sh cw tk) D f d k) = d - k + 1) (d - i) 0 (nI f) (Nat.zero_le _) ⟨rfl, hf⟩ ?_ ?_
  · rintro n s ⟨rfl, _⟩
    rw [show d - (d - i) = i by omega]
    exact br_t (sc_lt1 i (by omega)) h
  · rintro n k s hk ⟨rfl, I⟩ K
    obtain ⟨t, ht⟩ : ∃ t, d - k = t + 1 := ⟨d - k - 1, by omega⟩
    have hlt := L.2.2.1 (sc_ch (sc_E P R mv sh cw tk) D f d k) (by omega)
    show wX_trace_35 post (nI i) (nI P) (nI (sc_S P)) (nI R) ak nk rm rs rc rt pa la sa re de wo (n + 1) (nI (sc_ch (sc_E P R mv sh cw tk) D f d k)) (nI (d - k) - 1)
    rw [ht, nI_pred]
    refine br_f (nI_nlt (by omega) (by omega)) ?_
    obtain ⟨b, hb1, hb2⟩ := L.2.2.2.1 _ t (show D (sc_ch (sc_E P R mv sh cw tk) D f d k) = t + 2 by omega)
    refine sc_xlb B X hD hE (sc_ch (sc_E P R mv sh cw tk) D f d k) t rfl rfl hlt (by omega) ⟨b, L.2.2.1 b (by omega), hb1, hb2⟩ _ (fun b1 c1 c2 c3 c4 => ?_)
    have hc : sc_ch (sc_E P R mv sh cw tk) D f d (k + 1) = b1 := by
      show sc_lst (fun b => D b = d - k ∧ sc_E P R mv sh cw tk b (sc_ch (sc_E P R mv sh cw tk) D f d k)) = b1
      rw [ht]
      exact sc_lst_eq ⟨c2, c3⟩ c4
    refine nm_r (e' := nI (d - (k + 1)) - 1) (by rw [sc_m1, show d - (k + 1) = t by omega]) (K (nI b1) ⟨by rw [hc], by rw [hc]; omega⟩)
end
