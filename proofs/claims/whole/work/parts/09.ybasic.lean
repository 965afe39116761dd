/-! 9: the reference's small methods -/
theorem sc_oth_t {c p w n : Nat} (h : n ≠ p) (h2 : sc_dg c n = w) : sc_oth c p w n + 1 = sc_oth c p w (n + 1) := by
  show _ = sc_oth c p w n + (if n ≠ p ∧ sc_dg c n = w then 1 else 0)
  rw [if_pos ⟨h, h2⟩]
theorem sc_oth_f {c p w n : Nat} (h : ¬ (n ≠ p ∧ sc_dg c n = w)) : sc_oth c p w n = sc_oth c p w (n + 1) := by
  show _ = sc_oth c p w n + (if n ≠ p ∧ sc_dg c n = w then 1 else 0)
  rw [if_neg h]; rfl
section
variable {P R : Nat} {mv sh cw tk : Nat → Nat} {ak : Int32} {pw fr to si be cr mo tt pa la sa yd yw yl : Nat → Int32}
theorem sc_ydiv (W : sc_PW pw) {x y : Int32} (c k : Nat) (post : Int32 → Prop) (h : post (nI (c / 3 ^ k))) (hx : x = nI c := by rfl) (hy : y = nI k := by rfl) (hc : c < 2 ^ 31 := by omega) (hk : k < 6 := by omega) : wpY_divided post ((nI P), (nI (sc_S P)), (nI R), ak, pw, fr, to, si, be, cr, mo, tt, pa, la, sa, yd, yw, yl) x y := by
  subst hx hy
  have h3 := sc_pw (P := k) (by omega)
  have h0 : 0 < 3 ^ k := Nat.pow_pos (by decide)
  refine ⟨pk_in k 6 hk, nm_r (e' := nI (3 ^ k)) (by rw [nI_clamp (by omega)]; exact W k hk) ?_⟩
  refine pk_le 1 (3 ^ k) (fun _ => ⟨nI_ne0 h0 (by omega), ?_⟩) (fun q => absurd q (by omega))
  rw [pk_div hc h0 (by omega)]
  exact h
theorem sc_ypl (W : sc_PW pw) {x y : Int32} (c k : Nat) (post : Int32 → Prop) (h : post (nI (sc_dg c k))) (hx : x = nI c := by rfl) (hy : y = nI k := by rfl) (hc : c < 2 ^ 31 := by omega) (hk : k < 6 := by omega) : wpY_place post ((nI P), (nI (sc_S P)), (nI R), ak, pw, fr, to, si, be, cr, mo, tt, pa, la, sa, yd, yw, yl) x y := by
  unfold wpY_place
  dsimp only
  refine sc_ydiv W c k _ ⟨by decide, ?_⟩ hx hy hc hk
  rw [sc_r3 hc k]
  exact h
theorem sc_ysh (W : sc_PW pw) {x : Int32} (c : Nat) (post : Int32 → Prop) (h : post (nI (sc_dg c P))) (hx : x = nI c := by rfl) (hc : c < 2 ^ 31 := by omega) (hk : P ≤ 4 := by omega) : wpY_shared post ((nI P), (nI (sc_S P)), (nI R), ak, pw, fr, to, si, be, cr, mo, tt, pa, la, sa, yd, yw, yl) x := by
  unfold wpY_shared
  dsimp only
  refine sc_ydiv W c P _ ⟨by decide, ?_⟩ hx rfl hc (by omega)
  rw [sc_r3 hc P]
  exact h
theorem sc_yho (W : sc_PW pw) {x : Int32} (c : Nat) (post : Int32 → Prop) (h : post (nI (c / 3 ^ (P + 1)))) (hx : x = nI c := by rfl) (hc : c < 2 ^ 31 := by omega) (hk : P ≤ 4 := by omega) : wpY_holder post ((nI P), (nI (sc_S P)), (nI R), ak, pw, fr, to, si, be, cr, mo, tt, pa, la, sa, yd, yw, yl) x := by
  unfold wpY_holder
  dsimp only
  exact sc_ydiv W c (P + 1) _ h hx (nI_1 P) hc (by omega)
theorem sc_yoth (W : sc_PW pw) {x y z : Int32} (c p w : Nat) (post : Int32 → Prop) (h : post (nI (sc_oth c p w P))) (hy : ∀ r, r < P → (nI r = y ↔ r = p)) (hx : x = nI c := by rfl) (hz : z = nI w := by rfl) (hc : c < 2 ^ 31 := by omega) (hw : w < 2 ^ 31 := by omega) (hP : P ≤ 4 := by omega) : wpY_others post ((nI P), (nI (sc_S P)), (nI R), ak, pw, fr, to, si, be, cr, mo, tt, pa, la, sa, yd, yw, yl) x y z := by
  subst hx hz
  refine pk_loop (fun n i s => wY_others_6 post (nI c) y (nI w) (nI P) (nI (sc_S P)) (nI R) ak pw fr to si be cr mo tt pa la sa yd yw yl n s (nI i)) (fun i s => s = nI (sc_oth c p w i)) P 0 0 (Nat.zero_le _) rfl ?_ ?_
  · rintro n s rfl
    exact pk_le P P (fun _ => h) (fun q => absurd q (Nat.lt_irrefl _))
  · rintro n i s hi rfl K
    have hd := sc_dg_lt c i
    refine pk_le P i (fun q => absurd q (by omega)) (fun _ => ?_)
    by_cases e : i = p
    · exact br_t ((hy i hi).mpr e) (nm_r (nI_1 i) (K _ (by rw [sc_oth_f (fun q => q.1 e)])))
    · refine br_f (fun q => e ((hy i hi).mp q)) (sc_ypl W c i _ ?_)
      refine pk_eq (sc_dg c i) w (fun g => ?_) (fun g => ?_)
      · exact nm_r (nI_1 _) (nm_r (nI_1 i) (K _ (by rw [sc_oth_t e g])))
      · exact nm_r (nI_1 i) (K _ (by rw [sc_oth_f (fun q => g q.2)]))
theorem sc_ycan43 (B : sc_B P R mv sh cw tk) (W : sc_PW pw) (Y : sc_RY R mv sh cw tk fr to si be cr mo tt) {c p i : Nat} (hc : c < sc_S P) (hp : p < P) (hi : i < R) (g1 : sc_dg c p = mv i / 3) (g2 : sh i / 4 = 3 ∨ sc_dg c P = sh i / 4)
    (post : Int32 → Prop) (ht : sc_can P mv sh cw tk c p i = true → post 1) (hf : sc_can P mv sh cw tk c p i = false → post 0) : wY_canTake_43 post (nI c) (nI p) (nI i) (nI P) (nI (sc_S P)) (nI R) ak pw fr to si be cr mo tt pa la sa yd yw yl := by
  obtain ⟨hP1, hP4, hR, hB⟩ := B
  obtain ⟨e1, e2, e3, e4, e5, e6, e7⟩ := Y i hi
  obtain ⟨b1, b2, b3, b4⟩ := hB i hi
  have hS := sc_S_le hP4
  have ho := sc_oth_le c p (cw i / 4) P
  have hh := sc_hd hc
  have hcl : (nI i).toNatClampNeg = i := nI_clamp (by omega)
  have hin : vp_in (nI i) 12 := pk_in i 12 (by omega)
  refine ⟨hin, ?_⟩
  rw [hcl, e5, e6, e7]
  refine sc_yoth W c p (cw i / 4) _ ⟨hin, ?_⟩ (fun r hr => nI_eq (by omega) (by omega))
  refine pk_le (sc_oth c p (cw i / 4) P) (cw i % 4) (fun g3 => ?_) (fun g3 => hf (by simp [sc_can, Nat.not_le.mpr g3]))
  have e : sc_can P mv sh cw tk c p i = sc_tok P (tk i) (c / 3 ^ (P + 1)) p := by
    rcases g2 with g2 | g2 <;> simp [sc_can, g1, g2, g3]
  rw [e] at ht hf
  refine sc_yho W c _ ⟨hin, ?_⟩
  refine pk_eq (tk i) 1 (fun g => ?_) (fun q1 => ⟨hin, ?_⟩)
  · exact pk_eq (c / 3 ^ (P + 1)) P (fun e => ht (by simp [sc_tok, g, e])) (fun e => hf (by simp [sc_tok, g, e]))
  refine pk_eq (tk i) 2 (fun g => ?_) (fun q2 => ⟨hin, ?_⟩)
  · exact pk_eq (c / 3 ^ (P + 1)) p (fun e => ht (by simp [sc_tok, g, e])) (fun e => hf (by simp [sc_tok, g, e]))
  refine pk_eq (tk i) 3 (fun g => ?_) (fun q3 => ⟨hin, ?_⟩)
  · exact pk_eq (c / 3 ^ (P + 1)) p (fun e => ht (by simp [sc_tok, g, e])) (fun e => hf (by simp [sc_tok, g, e]))
  refine pk_eq (tk i) 4 (fun g => ?_) (fun q4 => ht (by simp [sc_tok, q1, q2, q3, q4]))
  exact pk_eq (c / 3 ^ (P + 1)) p (fun e => hf (by simp [sc_tok, g, e])) (fun e => ht (by simp [sc_tok, g, e]))
theorem sc_ycan (B : sc_B P R mv sh cw tk) (W : sc_PW pw) (Y : sc_RY R mv sh cw tk fr to si be cr mo tt) {c p i : Nat} (hc : c < sc_S P) (hp : p < P) (hi : i < R)
    (post : Int32 → Prop) (ht : sc_can P mv sh cw tk c p i = true → post 1) (hf : sc_can P mv sh cw tk c p i = false → post 0) : wpY_canTake post ((nI P), (nI (sc_S P)), (nI R), ak, pw, fr, to, si, be, cr, mo, tt, pa, la, sa, yd, yw, yl) (nI c) (nI p) (nI i) := by
  have B' := B
  obtain ⟨hP1, hP4, hR, hB⟩ := B
  obtain ⟨e1, e2, e3, e4, e5, e6, e7⟩ := Y i hi
  obtain ⟨b1, b2, b3, b4⟩ := hB i hi
  have hS := sc_S_le hP4
  have hcl : (nI i).toNatClampNeg = i := nI_clamp (by omega)
  have hin : vp_in (nI i) 12 := pk_in i 12 (by omega)
  have hd := sc_dg_lt c p
  have hd2 := sc_dg_lt c P
  unfold wpY_canTake
  dsimp only
  refine sc_ypl W c p _ ⟨hin, ?_⟩
  rw [hcl, e1, e3]
  refine pk_eq (sc_dg c p) (mv i / 3) (fun g1 => ⟨hin, ?_⟩) (fun g1 => hf (by simp [sc_can, g1]))
  refine pk_eq (sh i / 4) 3 (fun g2 => ?_) (fun g2 => ?_)
  · exact sc_ycan43 B' W Y hc hp hi g1 (Or.inl g2) post ht hf
  · refine sc_ysh W c _ ⟨hin, ?_⟩
    refine pk_eq (sc_dg c P) (sh i / 4) (fun g3 => ?_) (fun g3 => hf (by simp [sc_can, g2, g3]))
    exact sc_ycan43 B' W Y hc hp hi g1 (Or.inr g3) post ht hf
theorem sc_ytk122 (B : sc_B P R mv sh cw tk) (W : sc_PW pw) {s v w a : Nat} (ha : s + 3 ^ P * v + 3 ^ (P + 1) * w = a) (post : Int32 → Prop) (h : post (nI a)) : wY_taken_122 post (nI s) (nI v) (nI w) (nI P) (nI (sc_S P)) (nI R) ak pw fr to si be cr mo tt pa la sa yd yw yl := by
  obtain ⟨hP1, hP4, hR, hB⟩ := B
  have hcl : (nI P).toNatClampNeg = P := nI_clamp (by omega)
  have hcl2 : (nI P + 1).toNatClampNeg = P + 1 := by rw [nI_1]; exact nI_clamp (by omega)
  refine ⟨pk_in P 6 (by omega), pk_in (P + 1) 6 (by omega) (nI_1 P), ?_⟩
  rw [hcl, hcl2, W P (by omega), W (P + 1) (by omega), pk_mul, pk_mul, nI_add, nI_add, ha]
  exact h
theorem sc_ytk84 (B : sc_B P R mv sh cw tk) (W : sc_PW pw) (Y : sc_RY R mv sh cw tk fr to si be cr mo tt) {c p i : Nat} (hc : c < sc_S P) (hp : p < P) (hi : i < R) {z : Int32} (hz : z = nI (sc_nv P sh c i))
    (post : Int32 → Prop) (h : post (nI (sc_aft P mv sh tk c p i))) : wY_taken_84 post (nI c) (nI p) (nI i) (nI (sc_sum c p (mv i % 3) P)) z (nI P) (nI (sc_S P)) (nI R) ak pw fr to si be cr mo tt pa la sa yd yw yl := by
  have B' := B
  obtain ⟨hP1, hP4, hR, hB⟩ := B
  obtain ⟨e1, e2, e3, e4, e5, e6, e7⟩ := Y i hi
  obtain ⟨b1, b2, b3, b4⟩ := hB i hi
  have hS := sc_S_le hP4
  have hcl : (nI i).toNatClampNeg = i := nI_clamp (by omega)
  have hin : vp_in (nI i) 12 := pk_in i 12 (by omega)
  subst hz
  refine ⟨hin, ?_⟩
  rw [hcl, e7]
  refine pk_eq (tk i) 1 (fun g => ?_) (fun g => ⟨hin, ?_⟩)
  · exact sc_ytk122 B' W (by simp [sc_aft, sc_nh, g]) post h
  refine pk_eq (tk i) 2 (fun g2 => ?_) (fun g2 => ?_)
  · exact sc_ytk122 B' W (by simp [sc_aft, sc_nh, g2]) post h
  · refine sc_yho W c _ ?_
    exact sc_ytk122 B' W (by simp [sc_aft, sc_nh, g, g2]) post h
theorem sc_ytak (B : sc_B P R mv sh cw tk) (W : sc_PW pw) (Y : sc_RY R mv sh cw tk fr to si be cr mo tt) {c p i : Nat} (hc : c < sc_S P) (hp : p < P) (hi : i < R)
    (post : Int32 → Prop) (h : post (nI (sc_aft P mv sh tk c p i))) : wpY_taken post ((nI P), (nI (sc_S P)), (nI R), ak, pw, fr, to, si, be, cr, mo, tt, pa, la, sa, yd, yw, yl) (nI c) (nI p) (nI i) := by
  have B' := B
  obtain ⟨hP1, hP4, hR, hB⟩ := B
  obtain ⟨e1, e2, e3, e4, e5, e6, e7⟩ := Y i hi
  obtain ⟨b1, b2, b3, b4⟩ := hB i hi
  have hS := sc_S_le hP4
  have hcl : (nI i).toNatClampNeg = i := nI_clamp (by omega)
  have hin : vp_in (nI i) 12 := pk_in i 12 (by omega)
  refine pk_loop (fun n r s => wY_taken_6 post (nI c) (nI p) (nI i) (nI P) (nI (sc_S P)) (nI R) ak pw fr to si be cr mo tt pa la sa yd yw yl n s (nI r)) (fun r s => s = nI (sc_sum c p (mv i % 3) r)) P 0 0 (Nat.zero_le _) rfl ?_ ?_
  · rintro n s rfl
    refine pk_le P P (fun _ => ⟨hin, ?_⟩) (fun q => absurd q (Nat.lt_irrefl _))
    rw [hcl, e4]
    refine pk_eq (sh i % 4) 3 (fun g => ?_) (fun g => ⟨hin, ?_⟩)
    · refine sc_ysh W c _ ?_
      exact sc_ytk84 B' W Y hc hp hi (by simp [sc_nv, g]) post h
    · exact sc_ytk84 B' W Y hc hp hi (by simp [sc_nv, g]) post h
  · rintro n r s hr rfl K
    have hcr : (nI r).toNatClampNeg = r := nI_clamp (by omega)
    refine pk_le P r (fun q => absurd q (by omega)) (fun _ => ?_)
    refine pk_eq r p (fun g => ⟨hin, ?_⟩) (fun g => ?_)
    · refine ⟨pk_in r 6 (by omega), nm_r (e' := nI (sc_sum c p (mv i % 3) (r + 1))) ?_ (nm_r (nI_1 r) (K _ rfl))⟩
      rw [hcl, hcr, e2, W r (by omega), pk_mul, nI_add]
      simp [sc_sum, g]
    · refine sc_ypl W c r _ ⟨pk_in r 6 (by omega), nm_r (e' := nI (sc_sum c p (mv i % 3) (r + 1))) ?_ (nm_r (nI_1 r) (K _ rfl))⟩
      rw [hcr, W r (by omega), pk_mul, nI_add]
      simp [sc_sum, g]
end
