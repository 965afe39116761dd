/-! 12: the reference's rounds of lengthening -/
noncomputable def sc_dc (p : Prop) : Bool := @decide p (Classical.propDecidable p)
theorem sc_dc_t {p : Prop} : sc_dc p = true ↔ p := @decide_eq_true_iff p (Classical.propDecidable p)
noncomputable def sc_Ln (E : Nat → Nat → Prop) (V : Nat → Bool) (c : Nat) : Bool := V c && sc_dc (∃ e, E c e ∧ V e = true)
theorem sc_Ln_t {E : Nat → Nat → Prop} {V : Nat → Bool} {c : Nat} : sc_Ln E V c = true ↔ V c = true ∧ ∃ e, E c e ∧ V e = true := by
  unfold sc_Ln
  rw [Bool.and_eq_true, sc_dc_t]
theorem sc_Ln_f {E : Nat → Nat → Prop} {V : Nat → Bool} {c : Nat} (h : ¬ (V c = true ∧ ∃ e, E c e ∧ V e = true)) : sc_Ln E V c = false := by
  cases e : sc_Ln E V c with
  | false => rfl
  | true => exact absurd (sc_Ln_t.mp e) h
theorem sc_b_inj {a b : Bool} : sc_b a = sc_b b ↔ a = b := by
  cases a <;> cases b <;> decide
theorem sc_nbb (z : Bool) : vp_nar .boolean (sc_b z) = sc_b z := by
  cases z <;> rfl
section
variable {P R : Nat} {mv sh cw tk : Nat → Nat} {ak : Int32} {pw fr to si be cr mo tt pa la sa yd yw yl : Nat → Int32}
theorem sc_yln55 (B : sc_B P R mv sh cw tk) {V L : Nat → Bool} (hV : ∀ c, c < 1215 → yw c = sc_b (V c)) (hL : ∀ c, c < sc_S P → yl c = sc_b (L c)) (hO : ∀ c, sc_S P ≤ c → L c = V c) (post : Int32 → SY → Prop)
    (hP : ∀ z yw, (∀ c, c < 1215 → yw c = sc_b (L c)) → (z = false → ∀ c, c < sc_S P → L c = V c) → (z = true → ∃ c, c < sc_S P ∧ L c ≠ V c) → post (sc_b z) ((nI P), (nI (sc_S P)), (nI R), ak, pw, fr, to, si, be, cr, mo, tt, pa, la, sa, yd, yw, yl)) : ∃ n, wY_lengthen_55 post (nI P) (nI (sc_S P)) (nI R) ak n 0 0 pw fr to si be cr mo tt pa la sa yd yw yl := by
  have hS := sc_S_le B.2.1
  refine pk_loop (fun n i (s : Int32 × (Nat → Int32)) => wY_lengthen_55 post (nI P) (nI (sc_S P)) (nI R) ak n s.1 (nI i) pw fr to si be cr mo tt pa la sa yd s.2 yl) (fun i s => ∃ z, s.1 = sc_b z ∧ (∀ c, c < 1215 → s.2 c = sc_b (if c < i then L c else V c)) ∧ (z = false → ∀ c, c < i → L c = V c) ∧ (z = true → ∃ c, c < i ∧ L c ≠ V c)) (sc_S P) 0 (0, yw) (Nat.zero_le _)
    ⟨false, rfl, hV, fun _ c hc => absurd hc (Nat.not_lt_zero _), fun h => absurd h (by decide)⟩ ?_ ?_
  · rintro n ⟨x, yw⟩ ⟨z, rfl, h1, h2, h3⟩
    refine pk_le (sc_S P) (sc_S P) (fun _ => ⟨sc_nb z, hP z yw (fun c hc => ?_) h2 h3⟩) (fun q => absurd q (Nat.lt_irrefl _))
    have a := h1 c hc
    by_cases e : c < sc_S P
    · rw [if_pos e] at a; exact a
    · rw [if_neg e] at a
      rw [hO c (by omega)]; exact a
  · rintro n i ⟨x, yw⟩ hi ⟨z, rfl, h1, h2, h3⟩ K
    dsimp only at h1
    have hcl : (nI i).toNatClampNeg = i := nI_clamp (by omega)
    have hin : vp_in (nI i) 1215 := pk_in i 1215 (by omega)
    have hw := h1 i (by omega)
    rw [if_neg (Nat.lt_irrefl i)] at hw
    have hn : ∀ c, c < 1215 → upd yw i (sc_b (L i)) c = sc_b (if c < i + 1 then L c else V c) := by
      intro c hc
      by_cases e : c = i
      · rw [e, pk_us, if_pos (Nat.lt_succ_self i)]
      · rw [pk_un e, h1 c hc]
        by_cases q : c < i
        · rw [if_pos q, if_pos (by omega)]
        · rw [if_neg q, if_neg (by omega)]
    refine pk_le (sc_S P) i (fun q => absurd q (by omega)) (fun _ => pk_le 1215 i (fun q => absurd q (by omega)) (fun _ => ⟨hin, hin, ?_⟩))
    dsimp only
    rw [hcl, hL i hi, hw]
    by_cases e : L i = V i
    · refine br_t (sc_b_inj.mpr e) ⟨hin, hin, nm_r (e' := upd yw i (sc_b (L i))) (by rw [hcl, hL i hi, sc_nbb]) (nm_r (nI_1 i) (K (sc_b z, upd yw i (sc_b (L i))) ⟨z, rfl, hn, fun q => lt_s (h2 q) e, fun q => ?_⟩))⟩
      obtain ⟨c, a, b⟩ := h3 q
      exact ⟨c, by omega, b⟩
    · exact br_f (fun q => e (sc_b_inj.mp q)) ⟨hin, hin, nm_r (e' := upd yw i (sc_b (L i))) (by rw [hcl, hL i hi, sc_nbb]) (nm_r (nI_1 i) (K (1, upd yw i (sc_b (L i))) ⟨true, rfl, hn, fun q => absurd q (by decide), fun _ => ⟨i, by omega, e⟩⟩))⟩
theorem sc_ylen (B : sc_B P R mv sh cw tk) (W : sc_PW pw) (Y : sc_RY R mv sh cw tk fr to si be cr mo tt) {V : Nat → Bool} (hV : ∀ c, c < 1215 → yw c = sc_b (V c)) (hO : ∀ c, sc_S P ≤ c → V c = false) (post : Int32 → SY → Prop)
    (hP : ∀ z yw yl, (∀ c, c < 1215 → yw c = sc_b (sc_Ln (sc_E P R mv sh cw tk) V c)) → (z = false → ∀ c, c < sc_S P → sc_Ln (sc_E P R mv sh cw tk) V c = V c) → (z = true → ∃ c, c < sc_S P ∧ sc_Ln (sc_E P R mv sh cw tk) V c ≠ V c) → post (sc_b z) ((nI P), (nI (sc_S P)), (nI R), ak, pw, fr, to, si, be, cr, mo, tt, pa, la, sa, yd, yw, yl)) : wpY_lengthen post ((nI P), (nI (sc_S P)), (nI R), ak, pw, fr, to, si, be, cr, mo, tt, pa, la, sa, yd, yw, yl) := by
  have hS := sc_S_le B.2.1
  refine pk_loop (fun n i s => wY_lengthen_4 post 0 (nI P) (nI (sc_S P)) (nI R) ak n (nI i) pw fr to si be cr mo tt pa la sa yd yw s) (fun i s => ∀ c, c < i → s c = sc_b (sc_Ln (sc_E P R mv sh cw tk) V c)) (sc_S P) 0 yl (Nat.zero_le _) (fun j hj => absurd hj (Nat.not_lt_zero _)) ?_ ?_
  · intro n s I
    refine pk_le (sc_S P) (sc_S P) (fun _ => ?_) (fun q => absurd q (Nat.lt_irrefl _))
    refine sc_yln55 B hV I (fun c hc => ?_) post (fun z yw => hP z yw s)
    rw [hO c hc]
    exact sc_Ln_f (fun q => absurd (q.1.symm.trans (hO c hc)) (by decide))
  · intro n i s hi I K
    have hcl : (nI i).toNatClampNeg = i := nI_clamp (by omega)
    have hin : vp_in (nI i) 1215 := pk_in i 1215 (by omega)
    have hn : ∀ b, sc_Ln (sc_E P R mv sh cw tk) V i = b → ∀ c, c < i + 1 → upd s i (sc_b b) c = sc_b (sc_Ln (sc_E P R mv sh cw tk) V c) := fun b hb =>
      lt_s (fun a ha => by rw [pk_un (by omega)]; exact I a ha) (by rw [pk_us, hb])
    refine pk_le (sc_S P) i (fun q => absurd q (by omega)) (fun _ => pk_le 1215 i (fun q => absurd q (by omega)) (fun _ => ⟨hin, ?_⟩))
    rw [hcl, hV i (by omega), sc_n0, sc_n1]
    cases g : V i with
    | false => exact sc_bf ⟨hin, nm_e (nm_r (nI_1 i) (K (upd s i 0) (hn false (sc_Ln_f (fun q => absurd (q.1.symm.trans g) (by decide))))))⟩
    | true =>
      refine sc_bt (sc_ygo B W Y hV hi _ (fun hx => sc_bt ⟨hin, nm_e (nm_r (nI_1 i) (K (upd s i 1) (hn true (sc_Ln_t.mpr ⟨g, hx⟩))))⟩) (fun hx => sc_bf ⟨hin, nm_e (nm_r (nI_1 i) (K (upd s i 0) (hn false (sc_Ln_f ?_))))⟩))
      rintro ⟨_, e, he, hv⟩
      exact absurd ((hx e he).symm.trans hv) (by decide)
theorem sc_ye69 (B : sc_B P R mv sh cw tk) {V : Nat → Bool} (hV : ∀ c, c < 1215 → yw c = sc_b (V c)) (post : Int32 → SY → Prop) (h : post (nI (sc_cn V (sc_S P))) ((nI P), (nI (sc_S P)), (nI R), ak, pw, fr, to, si, be, cr, mo, tt, pa, la, sa, yd, yw, yl)) : ∃ n, wY_endless_69 post (nI P) (nI (sc_S P)) (nI R) ak pw fr to si be cr mo tt pa la sa yd yw yl n 0 0 := by
  have hS := sc_S_le B.2.1
  refine pk_loop (fun n i s => wY_endless_69 post (nI P) (nI (sc_S P)) (nI R) ak pw fr to si be cr mo tt pa la sa yd yw yl n s (nI i)) (fun i s => s = nI (sc_cn V i)) (sc_S P) 0 0 (Nat.zero_le _) rfl ?_ ?_
  · rintro n s rfl
    exact pk_le (sc_S P) (sc_S P) (fun _ => h) (fun q => absurd q (Nat.lt_irrefl _))
  · rintro n i s hi rfl K
    refine pk_le (sc_S P) i (fun q => absurd q (by omega)) (fun _ => pk_le 1215 i (fun q => absurd q (by omega)) (fun _ => ⟨pk_in i 1215 (by omega), ?_⟩))
    rw [nI_clamp (show i < 2 ^ 31 by omega), hV i (by omega)]
    cases g : V i with
    | false => exact sc_bf (nm_r (nI_1 i) (K _ (by rw [sc_cn_f g])))
    | true => exact sc_bt (nm_r (nI_1 _) (nm_r (nI_1 i) (K _ (by rw [sc_cn_t g]))))
theorem sc_ye43 (B : sc_B P R mv sh cw tk) (W : sc_PW pw) (Y : sc_RY R mv sh cw tk fr to si be cr mo tt) {D : Nat → Nat} (L : sc_Loc (sc_S P) (sc_st P) (sc_E P R mv sh cw tk) D) {G : Nat → Bool} (hG : sc_Gr (sc_E P R mv sh cw tk) D G) (hw : ∀ c, c < 1215 → yw c = sc_b (decide (D c ≠ 0))) (post : Int32 → SY → Prop)
    (hP : ∀ yw yl, post (nI (sc_cn G (sc_S P))) ((nI P), (nI (sc_S P)), (nI R), ak, pw, fr, to, si, be, cr, mo, tt, pa, la, sa, yd, yw, yl)) : ∃ n, wY_endless_43 post n 1 0 (nI P) (nI (sc_S P)) (nI R) ak pw fr to si be cr mo tt pa la sa yd yw yl := by
  have hS := sc_S_le B.2.1
  have fin : ∀ V yw yl, sc_Gr (sc_E P R mv sh cw tk) D V → (∀ c, c < 1215 → yw c = sc_b (V c)) → ∃ n, wY_endless_69 post (nI P) (nI (sc_S P)) (nI R) ak pw fr to si be cr mo tt pa la sa yd yw yl n 0 0 := fun V yw yl hg hV =>
    sc_ye69 B hV post (by rw [sc_cn_ext (sc_S P) (fun i _ => sc_Gr_un hg hG i)]; exact hP yw yl)
  refine pk_loop (fun n i (s : Int32 × (Nat → Int32) × (Nat → Int32)) => wY_endless_43 post n s.1 (nI i) (nI P) (nI (sc_S P)) (nI R) ak pw fr to si be cr mo tt pa la sa yd s.2.1 s.2.2) (fun k s => ∃ V z, s.1 = sc_b z ∧ (∀ c, c < 1215 → s.2.1 c = sc_b (V c)) ∧ sc_Ab (sc_E P R mv sh cw tk) D V ∧ ((z = true ∧ k + sc_cn V (sc_S P) ≤ 1215) ∨ (z = false ∧ sc_Gr (sc_E P R mv sh cw tk) D V))) 1216 0 (1, yw, yl) (Nat.zero_le _)
    ⟨_, true, rfl, hw, sc_Ab_0 _ D, Or.inl ⟨rfl, by have := sc_cn_le (fun c => decide (D c ≠ 0)) (sc_S P); omega⟩⟩ ?_ ?_
  · rintro n ⟨x, yw, yl⟩ ⟨V, z, rfl, hV, hA, h⟩
    refine pk_le 1216 1216 (fun _ => ?_) (fun q => absurd q (Nat.lt_irrefl _))
    rcases h with ⟨_, h⟩ | ⟨_, h⟩
    · exact absurd h (by omega)
    · exact fin V yw yl h hV
  · rintro n k ⟨x, yw, yl⟩ hk ⟨V, z, rfl, hV, hA, h⟩ K
    dsimp only at hV
    refine pk_le 1216 k (fun q => absurd q (by omega)) (fun _ => ?_)
    rcases h with ⟨rfl, h⟩ | ⟨rfl, h⟩
    · have hO : ∀ c, sc_S P ≤ c → V c = false := by
        intro c hc
        cases e : V c with
        | false => rfl
        | true => exact absurd (L.2.2.1 c (hA.1 c e)) (by omega)
      have hA' : sc_Ab (sc_E P R mv sh cw tk) D (sc_Ln (sc_E P R mv sh cw tk) V) := sc_Ab_len hA (fun c => sc_Ln_t)
      refine sc_bt (sc_ylen B W Y hV hO _ (fun z' yw' yl' h1 h2 h3 => nm_r (nI_1 k) (K (sc_b z', yw', yl') ⟨_, z', rfl, h1, hA', ?_⟩)))
      cases z' with
      | true =>
        obtain ⟨c, hc, hne⟩ := h3 rfl
        have a : V c = true := by
          cases e : V c with
          | true => rfl
          | false => exact absurd ((sc_Ln_f (fun q => absurd (q.1.symm.trans e) (by decide))).trans e.symm) hne
        have b : sc_Ln (sc_E P R mv sh cw tk) V c = false := by
          cases e : sc_Ln (sc_E P R mv sh cw tk) V c with
          | false => rfl
          | true => exact absurd (e.trans a.symm) hne
        have d := sc_cn_sublt (f := V) (g := sc_Ln (sc_E P R mv sh cw tk) V) a b (sc_S P) hc (fun i _ q => (sc_Ln_t.mp q).1)
        exact Or.inl ⟨rfl, by omega⟩
      | false =>
        refine Or.inr ⟨rfl, sc_Ab_Gr hA' (fun c hc => ?_)⟩
        obtain ⟨a, e, he, hv⟩ := sc_Ln_t.mp hc
        exact ⟨e, he, by rw [h2 rfl e (sc_E_lt he (L.2.2.1 c (hA.1 c a)))]; exact hv⟩
    · exact sc_bf (fin V yw yl h hV)
theorem sc_yend (B : sc_B P R mv sh cw tk) (W : sc_PW pw) (Y : sc_RY R mv sh cw tk fr to si be cr mo tt) {D : Nat → Nat} (L : sc_Loc (sc_S P) (sc_st P) (sc_E P R mv sh cw tk) D) (hD : ∀ c, D c ≤ sc_S P) {G : Nat → Bool} (hG : sc_Gr (sc_E P R mv sh cw tk) D G) (post : Int32 → SY → Prop)
    (hP : ∀ yd yw yl, post (nI (sc_cn G (sc_S P))) ((nI P), (nI (sc_S P)), (nI R), ak, pw, fr, to, si, be, cr, mo, tt, pa, la, sa, yd, yw, yl)) : wpY_endless post ((nI P), (nI (sc_S P)), (nI R), ak, pw, fr, to, si, be, cr, mo, tt, pa, la, sa, yd, yw, yl) := by
  have hS := sc_S_le B.2.1
  unfold wpY_endless
  dsimp only
  refine sc_yex B W Y L hD _ (fun yd hd => ?_)
  refine pk_loop (fun n i s => wY_endless_6 post (nI P) (nI (sc_S P)) (nI R) ak n (nI i) pw fr to si be cr mo tt pa la sa yd s yl) (fun i s => ∀ c, c < i → s c = sc_b (decide (D c ≠ 0))) 1215 0 yw (Nat.zero_le _) (fun j hj => absurd hj (Nat.not_lt_zero _)) ?_ ?_
  · intro n s I
    exact pk_le 1215 1215 (fun _ => sc_ye43 B W Y L hG I post (fun yw yl => hP yd yw yl)) (fun q => absurd q (Nat.lt_irrefl _))
  · intro n i s hi I K
    have hci : (nI i).toNatClampNeg = i := nI_clamp (by omega)
    have hDi : D i < 2 ^ 31 := Nat.lt_of_le_of_lt (hD i) (by omega)
    refine pk_le 1215 i (fun q => absurd q (by omega)) (fun _ => ⟨pk_in i 1215 (by omega), ?_⟩)
    rw [hci, hd i hi, sc_n0, sc_n1]
    by_cases z : D i = 0
    · refine br_t ((sc_ye_0 hDi).mpr z) ⟨pk_in i 1215 (by omega), nm_e (nm_r (nI_1 i) (K _ (lt_s (fun a ha => by rw [pk_un (by omega)]; exact I a ha) ?_)))⟩
      rw [pk_us, sc_b_f (by simp [z])]
    · refine br_f (fun q => z ((sc_ye_0 hDi).mp q)) ⟨pk_in i 1215 (by omega), nm_e (nm_r (nI_1 i) (K _ (lt_s (fun a ha => by rw [pk_un (by omega)]; exact I a ha) ?_)))⟩
      rw [pk_us, sc_b_t (by simp [z])]
end
