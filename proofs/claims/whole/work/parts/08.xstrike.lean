/-! 8: the component's striking -/
section
variable {P R : Nat} {mv sh cw tk : Nat → Nat} {ak nk : Int32} {rm rs rc rt pa la sa re de wo : Nat → Int32}
theorem sc_xfe63 (B : sc_B P R mv sh cw tk) (X : sc_RX R mv sh cw tk rm rs rc rt) {D q : Nat → Nat} {m : Nat} (F : sc_Fin (sc_S P) (sc_st P) (sc_E P R mv sh cw tk) D q m) (hE : sc_En D q m (nI m) re de)
    {G0 : Nat → Bool} (hA : sc_Ab (sc_E P R mv sh cw tk) D G0) (hw : ∀ c, c < sc_S P → wo c = sc_b (G0 c)) (r : Nat) (post : SX → Prop) (J : Int32 → Int32 → (Nat → Int32) → (Nat → Int32) → (Nat → Int32) → (Nat → Int32) → (Nat → Int32) → (Nat → Int32) → (Nat → Int32) → (Nat → Int32) → (Nat → Int32) → (Nat → Int32) → Prop)
    (hJ : ∀ G z wo, sc_EX (sc_E P R mv sh cw tk) D q (sc_S P) m G0 G z 0 → (∀ c, c < sc_S P → wo c = sc_b (G c)) → J (sc_b z) (nI (r + 1)) rm rs rc rt pa la sa re de wo) : ∃ n, wX_findEndless_63 post J (nI r) (nI P) (nI (sc_S P)) (nI R) ak (nI m) n 0 (nI m - 1) rm rs rc rt pa la sa re de wo := by
  have hS := sc_S_le B.2.1
  have hm := F.2.2.2.2.1
  refine ⟨m + 1, pk_loopD (fun n j (s : Int32 × (Nat → Int32)) => wX_findEndless_63 post J (nI r) (nI P) (nI (sc_S P)) (nI R) ak (nI m) n s.1 (nI j - 1) rm rs rc rt pa la sa re de s.2) (fun j s => j ≤ m ∧ ∃ G z, s.1 = sc_b z ∧ sc_EX (sc_E P R mv sh cw tk) D q (sc_S P) m G0 G z j ∧ ∀ c, c < sc_S P → s.2 c = sc_b (G c)) ?_ ?_ m (0, wo) ⟨Nat.le_refl _, G0, false, rfl, sc_EX_0 hA, hw⟩⟩
  · rintro n ⟨x, wo⟩ ⟨_, G, z, rfl, h, hw⟩
    exact br_t (by decide) (nm_r (nI_1 r) (hJ G z wo h hw))
  · rintro n j ⟨x, wo⟩ ⟨hj, G, z, rfl, h, hw⟩ K
    dsimp only at hw
    have hcj : (nI j).toNatClampNeg = j := nI_clamp (by omega)
    have hqn : D (q j) ≠ 0 := F.2.2.1 j (by omega)
    have hqs : q j < sc_S P := F.1.2.2.1 _ hqn
    have hcq : (nI (q j)).toNatClampNeg = q j := nI_clamp (by omega)
    have hvq : vp_in (nI (q j)) 1215 := pk_in (q j) 1215 (by omega)
    show wX_findEndless_63 post J (nI r) (nI P) (nI (sc_S P)) (nI R) ak (nI m) (n + 1) (sc_b z) (nI (j + 1) - 1) rm rs rc rt pa la sa re de wo
    rw [nI_pred]
    refine br_f (nI_pos (by omega)) ⟨pk_in j 1215 (by omega), nm_r (e' := nI (q j)) (by rw [hcj]; exact hE.2.1 j (by omega)) ⟨hvq, ?_⟩⟩
    rw [hcq, hw _ hqs]
    cases g : G (q j) with
    | false => exact sc_bf (nm_r (sc_m1 _) (K (sc_b z, wo) ⟨by omega, G, z, rfl, sc_EX_keep h (fun q => absurd (g.symm.trans q) Bool.false_ne_true), hw⟩))
    | true =>
      refine sc_bt (sc_xlw B X hw hqs _ (fun hx => sc_bt ?_) (fun hx => sc_bf ⟨hvq, nm_e (nm_r (sc_m1 _) (K (1, _) ⟨by omega, sc_up G (q j) false, true, rfl, sc_EX_strike h hqs g hx, fun c hc => ?_⟩))⟩))
      · exact nm_r (sc_m1 _) (K (sc_b z, wo) ⟨by omega, G, z, rfl, sc_EX_keep h (fun _ => hx), hw⟩)
      · show upd wo (q j) (vp_nar .boolean 0) c = _
        rw [sc_n0]
        by_cases e : c = q j
        · rw [e, pk_us, sc_up_s]; rfl
        · rw [pk_un e, sc_up_n e]; exact hw c hc
theorem sc_xfe42 (B : sc_B P R mv sh cw tk) (X : sc_RX R mv sh cw tk rm rs rc rt) {D q : Nat → Nat} {m : Nat} (F : sc_Fin (sc_S P) (sc_st P) (sc_E P R mv sh cw tk) D q m) (hE : sc_En D q m (nI m) re de)
    (hw : ∀ c, c < sc_S P → wo c = sc_b (decide (D c ≠ 0))) (post : SX → Prop)
    (hP : ∀ G wo, sc_Gr (sc_E P R mv sh cw tk) D G → (∀ c, c < sc_S P → wo c = sc_b (G c)) → post ((nI P), (nI (sc_S P)), (nI R), ak, nI m, rm, rs, rc, rt, pa, la, sa, re, de, wo)) : ∃ n, wX_findEndless_42 post (nI P) (nI (sc_S P)) (nI R) ak (nI m) n 1 0 rm rs rc rt pa la sa re de wo := by
  have hS := sc_S_le B.2.1
  have hm := F.2.2.2.2.1
  refine pk_loop (fun n i (s : Int32 × (Nat → Int32)) => wX_findEndless_42 post (nI P) (nI (sc_S P)) (nI R) ak (nI m) n s.1 (nI i) rm rs rc rt pa la sa re de s.2) (fun r s => ∃ G z, s.1 = sc_b z ∧ (∀ c, c < sc_S P → s.2 c = sc_b (G c)) ∧ ((z = true ∧ sc_Ab (sc_E P R mv sh cw tk) D G ∧ r + sc_cn G (sc_S P) ≤ m) ∨ (z = false ∧ sc_Gr (sc_E P R mv sh cw tk) D G))) m 0 (1, wo) (Nat.zero_le _)
    ⟨fun c => decide (D c ≠ 0), true, rfl, hw, Or.inl ⟨rfl, sc_Ab_0 _ D, by rw [sc_Fin_cn F]; omega⟩⟩ ?_ ?_
  · rintro n ⟨x, wo⟩ ⟨G, z, rfl, hw, h⟩
    refine pk_le m m (fun _ => hP G wo ?_ hw) (fun q => absurd q (Nat.lt_irrefl _))
    rcases h with ⟨_, h1, h2⟩ | ⟨_, h1⟩
    · exact sc_Ab_none F h1 (by omega)
    · exact h1
  · rintro n r ⟨x, wo⟩ hr ⟨G, z, rfl, hw, h⟩ K
    refine pk_le m r (fun q => absurd q (by omega)) (fun _ => ?_)
    rcases h with ⟨rfl, h1, h2⟩ | ⟨rfl, h1⟩
    · refine sc_bt (nm_e (sc_xfe63 B X F hE h1 hw r post _ (fun G' z' wo' h' hw' => K (sc_b z', wo') ⟨G', z', rfl, hw', ?_⟩)))
      cases z' with
      | false => exact Or.inr ⟨rfl, sc_EX_done F h'⟩
      | true =>
        have := sc_EX_more h'
        exact Or.inl ⟨rfl, this.1, by omega⟩
    · exact sc_bf (hP G wo h1 hw)
theorem sc_xfe (B : sc_B P R mv sh cw tk) (X : sc_RX R mv sh cw tk rm rs rc rt) {D q : Nat → Nat} {m : Nat} (F : sc_Fin (sc_S P) (sc_st P) (sc_E P R mv sh cw tk) D q m) (hE : sc_En D q m (nI m) re de) (post : SX → Prop)
    (hP : ∀ G wo, sc_Gr (sc_E P R mv sh cw tk) D G → (∀ c, c < sc_S P → wo c = sc_b (G c)) → post ((nI P), (nI (sc_S P)), (nI R), ak, nI m, rm, rs, rc, rt, pa, la, sa, re, de, wo)) : wpX_findEndless post ((nI P), (nI (sc_S P)), (nI R), ak, nI m, rm, rs, rc, rt, pa, la, sa, re, de, wo) := by
  have hS := sc_S_le B.2.1
  refine pk_loop (fun n i s => wX_findEndless_2 post (nI P) (nI (sc_S P)) (nI R) ak (nI m) n (nI i) rm rs rc rt pa la sa re de s) (fun i s => ∀ c, c < i → s c = sc_b (decide (D c ≠ 0))) (sc_S P) 0 wo (Nat.zero_le _) (fun j hj => absurd hj (Nat.not_lt_zero _)) ?_ ?_
  · intro n s I
    exact pk_le (sc_S P) (sc_S P) (fun _ => sc_xfe42 B X F hE I post hP) (fun q => absurd q (Nat.lt_irrefl _))
  · intro n i s hi I K
    have hci : (nI i).toNatClampNeg = i := nI_clamp (by omega)
    have hD : D i < 2 ^ 31 := Nat.lt_of_le_of_lt (F.2.1 i) (by omega)
    refine pk_le (sc_S P) i (fun q => absurd q (by omega)) (fun _ => ⟨pk_in i 1215 (by omega), ?_⟩)
    rw [hci, hE.2.2 i (by omega), sc_n0, sc_n1]
    by_cases z : D i = 0
    · refine br_t ((sc_xe_0 hD).mpr z) ⟨pk_in i 1215 (by omega), nm_e (nm_r (nI_1 i) (K _ (lt_s (fun a ha => by rw [pk_un (by omega)]; exact I a ha) ?_)))⟩
      rw [pk_us, sc_b_f (by simp [z])]
    · refine br_f (fun q => z ((sc_xe_0 hD).mp q)) ⟨pk_in i 1215 (by omega), nm_e (nm_r (nI_1 i) (K _ (lt_s (fun a ha => by rw [pk_un (by omega)]; exact I a ha) ?_)))⟩
      rw [pk_us, sc_b_t (by simp [z])]
end
