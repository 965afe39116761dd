/-! 5: the component's small methods -/
theorem sc_d3 {c : Nat} (h : c < 2 ^ 31) (k : Nat) : nI (c / 3 ^ k) / 3 = nI (c / 3 ^ (k + 1)) := by
  rw [Nat.pow_succ, ← Nat.div_div_eq_div_mul]
  exact pk_div (Nat.lt_of_le_of_lt (Nat.div_le_self _ _) h) (by decide) (by decide)
theorem sc_r3 {c : Nat} (h : c < 2 ^ 31) (k : Nat) : nI (c / 3 ^ k) - nI (c / 3 ^ k) / 3 * 3 = nI (sc_dg c k) :=
  pk_rem (Nat.lt_of_le_of_lt (Nat.div_le_self _ _) h) (by decide) (by decide)
theorem sc_xpow {x : Int32} (e : Nat) (post : Int32 → Prop) (h : post (nI (3 ^ e))) (hx : x = nI e := by rfl) (he : e < 2 ^ 31 := by omega) : wpX_powerOfThree post x := by
  subst hx
  refine pk_loop (fun n i s => wX_powerOfThree_4 post (nI e) n s (nI i)) (fun i s => s = nI (3 ^ i)) e 0 1 (Nat.zero_le _) rfl ?_ ?_
  · rintro n s rfl
    exact pk_le e e (fun _ => h) (fun q => absurd q (Nat.lt_irrefl _))
  · rintro n i s hi rfl K
    exact pk_le e i (fun q => absurd q (by omega)) (fun _ => nm_r (pk_mul (3 ^ i) 3) (nm_r (nI_1 i) (K _ rfl)))
theorem sc_xwd {x y : Int32} (c k : Nat) (post : Int32 → Prop) (h : post (nI (c / 3 ^ k))) (hx : x = nI c := by rfl) (hy : y = nI k := by rfl) (hc : c < 2 ^ 31 := by omega) (hk : k < 2 ^ 31 := by omega) : wpX_withoutDigits post x y := by
  subst hx hy
  refine pk_loop (fun n i s => wX_withoutDigits_4 post (nI k) n s (nI i)) (fun i s => s = nI (c / 3 ^ i)) k 0 (nI c) (Nat.zero_le _) (congrArg nI (Nat.div_one c).symm) ?_ ?_
  · rintro n s rfl
    exact pk_le k k (fun _ => h) (fun q => absurd q (Nat.lt_irrefl _))
  · rintro n i s hi rfl K
    exact pk_le k i (fun q => absurd q (by omega)) (fun _ => ⟨by decide, nm_r (sc_d3 hc i) (nm_r (nI_1 i) (K _ rfl))⟩)
theorem sc_cnt_t {c w n : Nat} (h : sc_dg c n = w) : sc_cnt c w n + 1 = sc_cnt c w (n + 1) := by
  show _ = sc_cnt c w n + (if sc_dg c n = w then 1 else 0)
  rw [if_pos h]
theorem sc_cnt_f {c w n : Nat} (h : sc_dg c n ≠ w) : sc_cnt c w n = sc_cnt c w (n + 1) := by
  show _ = sc_cnt c w n + (if sc_dg c n = w then 1 else 0)
  rw [if_neg h]; rfl
section
variable {P R : Nat} {mv sh cw tk : Nat → Nat} {ak nk rkk : Int32} {rm rs rc rt pa la sa re de wo : Nat → Int32}
theorem sc_xcnt {x y : Int32} (c w : Nat) (post : Int32 → Prop) (h : post (nI (sc_cnt c w P))) (hx : x = nI c := by rfl) (hy : y = nI w := by rfl) (hP : P ≤ 4 := by omega) (hc : c < 2 ^ 31 := by omega) (hw : w < 2 ^ 31 := by omega) : wpX_countAt post ((nI P), (nI (sc_S P)), rkk, ak, nk, rm, rs, rc, rt, pa, la, sa, re, de, wo) x y := by
  subst hx hy
  refine pk_loop (fun n i (s : Int32 × Int32) => wX_countAt_8 post (nI w) (nI P) (nI (sc_S P)) rkk ak nk rm rs rc rt pa la sa re de wo n s.1 s.2 (nI i)) (fun i s => s = (nI (sc_cnt c w i), nI (c / 3 ^ i))) P 0 (0, nI c) (Nat.zero_le _) (congrArg (fun z => ((0 : Int32), nI z)) (Nat.div_one c).symm) ?_ ?_
  · rintro n s rfl
    exact pk_le P P (fun _ => h) (fun q => absurd q (Nat.lt_irrefl _))
  · rintro n i s hi rfl K
    have hd := sc_dg_lt c i
    refine pk_le P i (fun q => absurd q (by omega)) (fun _ => ⟨by decide, ?_⟩)
    refine pk_eq (sc_dg c i) w (fun g => ?_) (fun g => ?_) (hx := sc_r3 hc i)
    · exact nm_r (nI_1 _) ⟨by decide, nm_r (sc_d3 hc i) (nm_r (nI_1 i) (K (nI (sc_cnt c w i + 1), nI (c / 3 ^ (i + 1))) (by rw [sc_cnt_t g])))⟩
    · exact ⟨by decide, nm_r (sc_d3 hc i) (nm_r (nI_1 i) (K (nI (sc_cnt c w i), nI (c / 3 ^ (i + 1))) (by rw [sc_cnt_f g])))⟩
theorem sc_xtok {x y z : Int32} (t h p : Nat) (post : Int32 → Prop) (ht : sc_tok P t h p = true → post 1) (hf : sc_tok P t h p = false → post 0) (hx : x = nI t := by rfl) (hy : y = nI h := by rfl) (hz : z = nI p := by rfl) (t5 : t < 5 := by omega) (hP : P ≤ 4 := by omega) (hh : h < 2 ^ 31 := by omega) (hp : p < 2 ^ 31 := by omega) :
    wpX_tokenAllows post ((nI P), (nI (sc_S P)), rkk, ak, nk, rm, rs, rc, rt, pa, la, sa, re, de, wo) x y z := by
  subst hx hy hz
  refine pk_lt t 1 (fun g => ht (by simp [sc_tok, show t = 0 by omega])) (fun g => ?_)
  refine pk_lt 4 t (fun g => absurd g (by omega)) (fun g => ?_)
  refine pk_eq t 1 (fun g => ?_) (fun g1 => ?_)
  · exact pk_eq h P (fun e => ht (by simp [sc_tok, g, e])) (fun e => hf (by simp [sc_tok, g, e]))
  refine pk_eq t 2 (fun g => ?_) (fun g2 => ?_)
  · exact pk_eq h p (fun e => ht (by simp [sc_tok, g, e])) (fun e => hf (by simp [sc_tok, g, e]))
  refine pk_eq t 3 (fun g => ?_) (fun g3 => ?_)
  · exact pk_eq h p (fun e => ht (by simp [sc_tok, g, e])) (fun e => hf (by simp [sc_tok, g, e]))
  refine pk_eq t 4 (fun g => ?_) (fun g4 => absurd g4 (by omega))
  exact pk_eq h p (fun e => hf (by simp [sc_tok, g, e])) (fun e => ht (by simp [sc_tok, g, e]))
theorem sc_xcan103 (B : sc_B P R mv sh cw tk) (X : sc_RX R mv sh cw tk rm rs rc rt) {c p i : Nat} (hc : c < sc_S P) (hp : p < P) (hi : i < R) {z : Int32} (hz : z = nI (sc_oth c p (cw i / 4) P)) (g1 : sc_dg c p = mv i / 3) (g2 : sh i / 4 = 3 ∨ sc_dg c P = sh i / 4)
    (post : Int32 → Prop) (ht : sc_can P mv sh cw tk c p i = true → post 1) (hf : sc_can P mv sh cw tk c p i = false → post 0) : wX_canTake_103 post (nI c) (nI p) (nI i) (nI (cw i % 4)) z (nI P) (nI (sc_S P)) (nI R) ak nk rm rs rc rt pa la sa re de wo := by
  obtain ⟨hP1, hP4, hR, hB⟩ := B
  obtain ⟨e1, e2, e3, e4⟩ := X i hi
  obtain ⟨b1, b2, b3, b4⟩ := hB i hi
  have hS := sc_S_le hP4
  have ho := sc_oth_le c p (cw i / 4) P
  have hh := sc_hd hc
  have hcl : (nI i).toNatClampNeg = i := nI_clamp (by omega)
  subst hz
  refine pk_le (sc_oth c p (cw i / 4) P) (cw i % 4) (fun g3 => ?_) (fun g3 => hf ?_)
  · have e : sc_can P mv sh cw tk c p i = sc_tok P (tk i) (c / 3 ^ (P + 1)) p := by
      rcases g2 with g2 | g2 <;> simp [sc_can, g1, g2, g3]
    rw [e] at ht hf
    refine sc_xwd c (P + 1) _ ⟨pk_in i 12 (by omega), ?_⟩ (hy := nI_1 P)
    exact sc_xtok (tk i) (c / 3 ^ (P + 1)) p _ (fun q => ⟨rfl, ht q⟩) (fun q => ⟨rfl, hf q⟩) (hx := by rw [hcl, e4])
  · simp [sc_can, Nat.not_le.mpr g3]
theorem sc_xcan57 (B : sc_B P R mv sh cw tk) (X : sc_RX R mv sh cw tk rm rs rc rt) {c p i : Nat} (hc : c < sc_S P) (hp : p < P) (hi : i < R) (g1 : sc_dg c p = mv i / 3) (g2 : sh i / 4 = 3 ∨ sc_dg c P = sh i / 4)
    (post : Int32 → Prop) (ht : sc_can P mv sh cw tk c p i = true → post 1) (hf : sc_can P mv sh cw tk c p i = false → post 0) : wX_canTake_57 post (nI c) (nI p) (nI i) (nI (mv i / 3)) (nI P) (nI (sc_S P)) (nI R) ak nk rm rs rc rt pa la sa re de wo := by
  have B' := B
  obtain ⟨hP1, hP4, hR, hB⟩ := B
  obtain ⟨e1, e2, e3, e4⟩ := X i hi
  obtain ⟨b1, b2, b3, b4⟩ := hB i hi
  have hS := sc_S_le hP4
  have hcl : (nI i).toNatClampNeg = i := nI_clamp (by omega)
  have hin : vp_in (nI i) 12 := pk_in i 12 (by omega)
  have hoc := sc_oth_cnt c p (cw i / 4) P
  refine ⟨hin, by decide, nm_r (e' := nI (cw i / 4)) (by rw [hcl, e3]; exact pk_div (by omega) (by decide) (by decide)) ⟨hin, by decide, nm_r (e' := nI (cw i % 4)) (by rw [hcl, e3]; exact pk_rem (by omega) (by decide) (by decide)) ?_⟩⟩
  refine pk_eq (mv i / 3) (cw i / 4) (fun g => ?_) (fun g => ?_)
  · rw [if_pos ⟨hp, g1.trans g⟩] at hoc
    refine sc_xcnt c (cw i / 4) _ ?_
    exact sc_xcan103 B' X hc hp hi (by rw [← hoc]; exact nI_pred _) g1 g2 post ht hf
  · rw [if_neg (fun q => g (g1.symm.trans q.2))] at hoc
    refine sc_xcnt c (cw i / 4) _ ?_
    exact sc_xcan103 B' X hc hp hi (by rw [← hoc]; rfl) g1 g2 post ht hf
theorem sc_xcan (B : sc_B P R mv sh cw tk) (X : sc_RX R mv sh cw tk rm rs rc rt) {c p i : Nat} (hc : c < sc_S P) (hp : p < P) (hi : i < R)
    (post : Int32 → Prop) (ht : sc_can P mv sh cw tk c p i = true → post 1) (hf : sc_can P mv sh cw tk c p i = false → post 0) : wpX_canTake post ((nI P), (nI (sc_S P)), (nI R), ak, nk, rm, rs, rc, rt, pa, la, sa, re, de, wo) (nI c) (nI p) (nI i) := by
  have B' := B
  obtain ⟨hP1, hP4, hR, hB⟩ := B
  obtain ⟨e1, e2, e3, e4⟩ := X i hi
  obtain ⟨b1, b2, b3, b4⟩ := hB i hi
  have hS := sc_S_le hP4
  have hcl : (nI i).toNatClampNeg = i := nI_clamp (by omega)
  have hin : vp_in (nI i) 12 := pk_in i 12 (by omega)
  have hd := sc_dg_lt c p
  have hd2 := sc_dg_lt c P
  refine ⟨hin, by decide, nm_r (e' := nI (mv i / 3)) (by rw [hcl, e1]; exact pk_div (by omega) (by decide) (by decide)) ?_⟩
  refine sc_xwd c p _ ⟨by decide, ?_⟩
  refine pk_eq (sc_dg c p) (mv i / 3) (fun g1 => ?_) (fun g1 => hf (by simp [sc_can, g1])) (hx := sc_r3 (by omega) p)
  refine ⟨hin, by decide, nm_r (e' := nI (sh i / 4)) (by rw [hcl, e2]; exact pk_div (by omega) (by decide) (by decide)) ?_⟩
  refine pk_eq (sh i / 4) 3 (fun g2 => ?_) (fun g2 => ?_)
  · exact sc_xcan57 B' X hc hp hi g1 (Or.inl g2) post ht hf
  · refine sc_xwd c P _ ⟨by decide, ?_⟩
    refine pk_eq (sc_dg c P) (sh i / 4) (fun g3 => ?_) (fun g3 => hf (by simp [sc_can, g2, g3])) (hx := sc_r3 (by omega) P)
    exact sc_xcan57 B' X hc hp hi g1 (Or.inr g3) post ht hf
theorem sc_int {a c f t s v h w A B C : Nat} (e : a + A * f + B * s + C * h = c + A * t + B * v + C * w) : ((nI c + (nI t - nI f) * nI A) + (nI v - nI s) * nI B) + (nI w - nI h) * nI C = nI a := by
  have e2 := congrArg nI e
  simp only [← nI_add, ← pk_mul] at e2
  grind
theorem sc_xaft105 (B : sc_B P R mv sh cw tk) {c p i : Nat} (hp : p < P) (g1 : sc_dg c p = mv i / 3) {xv xw : Int32} (hv : xv = nI (sc_nv P sh c i)) (hw : xw = nI (sc_nh P tk c p i))
    (post : Int32 → Prop) (h : post (nI (sc_aft P mv sh tk c p i))) : wX_codeAfter_105 post (nI c) (nI p) (nI (mv i / 3)) (nI (mv i % 3)) (nI (sc_dg c P)) xv (nI (c / 3 ^ (P + 1))) xw (nI P) (nI (sc_S P)) (nI R) ak nk rm rs rc rt pa la sa re de wo := by
  obtain ⟨hP1, hP4, hR, hB⟩ := B
  subst hv hw
  refine sc_xpow p _ ?_
  refine sc_xpow P _ ?_
  refine sc_xpow (P + 1) _ ?_ (hx := nI_1 P)
  rw [sc_int (sc_aft_nat mv sh tk i hp g1)]
  exact h
theorem sc_xaft55 (B : sc_B P R mv sh cw tk) (X : sc_RX R mv sh cw tk rm rs rc rt) {c p i : Nat} (hc : c < sc_S P) (hp : p < P) (hi : i < R) (g1 : sc_dg c p = mv i / 3) {xv : Int32} (hv : xv = nI (sc_nv P sh c i))
    (post : Int32 → Prop) (h : post (nI (sc_aft P mv sh tk c p i))) : wX_codeAfter_55 post (nI c) (nI p) (nI i) (nI (mv i / 3)) (nI (mv i % 3)) (nI (sc_dg c P)) xv (nI P) (nI (sc_S P)) (nI R) ak nk rm rs rc rt pa la sa re de wo := by
  have B' := B
  obtain ⟨hP1, hP4, hR, hB⟩ := B
  obtain ⟨e1, e2, e3, e4⟩ := X i hi
  obtain ⟨b1, b2, b3, b4⟩ := hB i hi
  have hS := sc_S_le hP4
  have hcl : (nI i).toNatClampNeg = i := nI_clamp (by omega)
  have hin : vp_in (nI i) 12 := pk_in i 12 (by omega)
  refine sc_xwd c (P + 1) _ ⟨hin, ?_⟩ (hy := nI_1 P)
  refine pk_eq (tk i) 1 (fun g => ?_) (fun g => ⟨hin, ?_⟩) (hx := by rw [hcl, e4])
  · exact sc_xaft105 B' hp g1 hv (by simp [sc_nh, g]) post h
  refine pk_eq (tk i) 2 (fun g2 => ?_) (fun g2 => ?_) (hx := by rw [hcl, e4])
  · exact sc_xaft105 B' hp g1 hv (by simp [sc_nh, g2]) post h
  · exact sc_xaft105 B' hp g1 hv (by simp [sc_nh, g, g2]) post h
theorem sc_xaft (B : sc_B P R mv sh cw tk) (X : sc_RX R mv sh cw tk rm rs rc rt) {c p i : Nat} (hc : c < sc_S P) (hp : p < P) (hi : i < R) (hcan : sc_can P mv sh cw tk c p i = true)
    (post : Int32 → Prop) (h : post (nI (sc_aft P mv sh tk c p i))) : wpX_codeAfter post ((nI P), (nI (sc_S P)), (nI R), ak, nk, rm, rs, rc, rt, pa, la, sa, re, de, wo) (nI c) (nI p) (nI i) := by
  have B' := B
  obtain ⟨hP1, hP4, hR, hB⟩ := B
  obtain ⟨e1, e2, e3, e4⟩ := X i hi
  obtain ⟨b1, b2, b3, b4⟩ := hB i hi
  have hS := sc_S_le hP4
  have hcl : (nI i).toNatClampNeg = i := nI_clamp (by omega)
  have hin : vp_in (nI i) 12 := pk_in i 12 (by omega)
  have g1 := sc_can_1 hcan
  refine ⟨hin, by decide, nm_r (e' := nI (mv i / 3)) (by rw [hcl, e1]; exact pk_div (by omega) (by decide) (by decide)) ⟨hin, by decide, nm_r (e' := nI (mv i % 3)) (by rw [hcl, e1]; exact pk_rem (by omega) (by decide) (by decide)) ?_⟩⟩
  refine sc_xwd c P _ ⟨by decide, nm_r (sc_r3 (by omega) P) ⟨hin, by decide, nm_r (e' := nI (sh i % 4)) (by rw [hcl, e2]; exact pk_rem (by omega) (by decide) (by decide)) ?_⟩⟩
  refine pk_eq (sh i % 4) 3 (fun g => ?_) (fun g => ?_)
  · exact sc_xaft55 B' X hc hp hi g1 (by simp [sc_nv, g]) post h
  · exact sc_xaft55 B' X hc hp hi g1 (by simp [sc_nv, g]) post h
end
