/-! 6: the component's double loops and its search -/
theorem sc_cn_t {f : Nat → Bool} {n : Nat} (h : f n = true) : sc_cn f n + 1 = sc_cn f (n + 1) := by
  show _ = sc_cn f n + (if f n = true then 1 else 0)
  rw [if_pos h]
theorem sc_cn_f {f : Nat → Bool} {n : Nat} (h : f n = false) : sc_cn f n = sc_cn f (n + 1) := by
  show _ = sc_cn f n + (if f n = true then 1 else 0)
  rw [if_neg (by rw [h]; exact Bool.false_ne_true)]; rfl
section
variable {P R : Nat} {mv sh cw tk : Nat → Nat} {ak nk : Int32} {rm rs rc rt pa la sa re de wo : Nat → Int32}
theorem sc_xcc15 (B : sc_B P R mv sh cw tk) (X : sc_RX R mv sh cw tk rm rs rc rt) {c p : Nat} (hc : c < sc_S P) (hp : p < P) (t : Nat) (post : Int32 → Prop) (J : Int32 → Int32 → Prop)
    (hJ : J (nI (t + sc_cn (fun i => sc_can P mv sh cw tk c p i) R)) (nI (p + 1))) : ∃ n, wX_countChoices_15 post J (nI c) (nI p) (nI P) (nI (sc_S P)) (nI R) ak nk rm rs rc rt pa la sa re de wo n (nI t) 0 := by
  have hR := B.2.2.1
  refine pk_loop (fun n i s => wX_countChoices_15 post J (nI c) (nI p) (nI P) (nI (sc_S P)) (nI R) ak nk rm rs rc rt pa la sa re de wo n s (nI i)) (fun i s => s = nI (t + sc_cn (fun i => sc_can P mv sh cw tk c p i) i)) R 0 (nI t) (Nat.zero_le _) rfl ?_ ?_
  · rintro n s rfl
    exact pk_le R R (fun _ => nm_r (nI_1 p) hJ) (fun q => absurd q (Nat.lt_irrefl _))
  · rintro n i s hi rfl K
    refine pk_le R i (fun q => absurd q (by omega)) (fun _ => ?_)
    refine sc_xcan B X hc hp hi _ (fun g => sc_bt ?_) (fun g => sc_bf ?_)
    · exact nm_r (nI_1 _) (nm_r (nI_1 i) (K _ (by rw [Nat.add_assoc, sc_cn_t (f := fun i => sc_can P mv sh cw tk c p i) g])))
    · exact nm_r (nI_1 i) (K _ (by rw [sc_cn_f (f := fun i => sc_can P mv sh cw tk c p i) g]))
theorem sc_xcc (B : sc_B P R mv sh cw tk) (X : sc_RX R mv sh cw tk rm rs rc rt) {x : Int32} (c : Nat) (hc : c < sc_S P) (post : Int32 → Prop) (h : post (nI (sc_prs P R mv sh cw tk c P))) (hx : x = nI c := by rfl) : wpX_countChoices post ((nI P), (nI (sc_S P)), (nI R), ak, nk, rm, rs, rc, rt, pa, la, sa, re, de, wo) x := by
  subst hx
  have hP := B.2.1
  refine pk_loop (fun n i s => wX_countChoices_4 post (nI c) (nI P) (nI (sc_S P)) (nI R) ak nk rm rs rc rt pa la sa re de wo n s (nI i)) (fun i s => s = nI (sc_prs P R mv sh cw tk c i)) P 0 0 (Nat.zero_le _) rfl ?_ ?_
  · rintro n s rfl
    exact pk_le P P (fun _ => h) (fun q => absurd q (Nat.lt_irrefl _))
  · rintro n i s hi rfl K
    exact pk_le P i (fun q => absurd q (by omega)) (fun _ => sc_xcc15 B X hc hi _ post _ (K _ rfl))
theorem sc_xlead13 (B : sc_B P R mv sh cw tk) (X : sc_RX R mv sh cw tk rm rs rc rt) {c p : Nat} (hc : c < sc_S P) (hp : p < P) (e : Nat) (he : e < 2 ^ 31) (post : Int32 → Prop) (J : Int32 → Prop)
    (ht : sc_E P R mv sh cw tk c e → post 1) (hJ : (∀ i, i < R → sc_can P mv sh cw tk c p i = true → sc_aft P mv sh tk c p i ≠ e) → J (nI (p + 1))) : ∃ n, wX_leadsTo_13 post J (nI c) (nI e) (nI p) (nI P) (nI (sc_S P)) (nI R) ak nk rm rs rc rt pa la sa re de wo n 0 := by
  have hR := B.2.2.1
  have hS := sc_S_le B.2.1
  refine pk_loop (fun n i (_ : Unit) => wX_leadsTo_13 post J (nI c) (nI e) (nI p) (nI P) (nI (sc_S P)) (nI R) ak nk rm rs rc rt pa la sa re de wo n (nI i)) (fun i _ => ∀ j, j < i → sc_can P mv sh cw tk c p j = true → sc_aft P mv sh tk c p j ≠ e) R 0 () (Nat.zero_le _) (fun j hj => absurd hj (Nat.not_lt_zero _)) ?_ ?_
  · intro n s I
    exact pk_le R R (fun _ => nm_r (nI_1 p) (hJ I)) (fun q => absurd q (Nat.lt_irrefl _))
  · intro n i s hi I K
    refine pk_le R i (fun q => absurd q (by omega)) (fun _ => ?_)
    refine sc_xcan B X hc hp hi _ (fun g => sc_bt ?_) (fun g => sc_bf ?_)
    · have hl := sc_aft_lt mv sh tk i hp hc
      refine sc_xaft B X hc hp hi g _ ?_
      refine pk_eq (sc_aft P mv sh tk c p i) e (fun q => ht ⟨p, hp, i, hi, g, q⟩) (fun q => ?_)
      exact nm_r (nI_1 i) (K () (lt_s I (fun _ => q)))
    · exact nm_r (nI_1 i) (K () (lt_s I (fun q => absurd (g.symm.trans q) Bool.false_ne_true)))
theorem sc_xlead (B : sc_B P R mv sh cw tk) (X : sc_RX R mv sh cw tk rm rs rc rt) {x y : Int32} (c e : Nat) (hc : c < sc_S P) (post : Int32 → Prop)
    (ht : sc_E P R mv sh cw tk c e → post 1) (hf : ¬ sc_E P R mv sh cw tk c e → post 0) (hx : x = nI c := by rfl) (hy : y = nI e := by rfl) (he : e < 2 ^ 31 := by omega) : wpX_leadsTo post ((nI P), (nI (sc_S P)), (nI R), ak, nk, rm, rs, rc, rt, pa, la, sa, re, de, wo) x y := by
  subst hx hy
  have hP := B.2.1
  refine pk_loop (fun n i (_ : Unit) => wX_leadsTo_2 post (nI c) (nI e) (nI P) (nI (sc_S P)) (nI R) ak nk rm rs rc rt pa la sa re de wo n (nI i)) (fun p _ => ∀ p', p' < p → ∀ i, i < R → sc_can P mv sh cw tk c p' i = true → sc_aft P mv sh tk c p' i ≠ e) P 0 () (Nat.zero_le _) (fun j hj => absurd hj (Nat.not_lt_zero _)) ?_ ?_
  · intro n s I
    refine pk_le P P (fun _ => hf ?_) (fun q => absurd q (Nat.lt_irrefl _))
    rintro ⟨p, hp, i, hi, g, q⟩
    exact I p hp i hi g q
  · intro n i s hi I K
    exact pk_le P i (fun q => absurd q (by omega)) (fun _ => sc_xlead13 B X hc hi e he post _ ht (fun h => K () (lt_s I h)))
theorem sc_xlw12 (B : sc_B P R mv sh cw tk) (X : sc_RX R mv sh cw tk rm rs rc rt) {G : Nat → Bool} (hG : ∀ e, e < sc_S P → wo e = sc_b (G e)) {c p : Nat} (hc : c < sc_S P) (hp : p < P) (post : Int32 → Prop) (J : Int32 → Prop)
    (ht : (∃ e, sc_E P R mv sh cw tk c e ∧ G e = true) → post 1) (hJ : (∀ i, i < R → sc_can P mv sh cw tk c p i = true → G (sc_aft P mv sh tk c p i) = false) → J (nI (p + 1))) : ∃ n, wX_leadsToWalker_12 post J (nI c) (nI p) (nI P) (nI (sc_S P)) (nI R) ak nk rm rs rc rt pa la sa re de wo n 0 := by
  have hR := B.2.2.1
  have hS := sc_S_le B.2.1
  refine pk_loop (fun n i (_ : Unit) => wX_leadsToWalker_12 post J (nI c) (nI p) (nI P) (nI (sc_S P)) (nI R) ak nk rm rs rc rt pa la sa re de wo n (nI i)) (fun i _ => ∀ j, j < i → sc_can P mv sh cw tk c p j = true → G (sc_aft P mv sh tk c p j) = false) R 0 () (Nat.zero_le _) (fun j hj => absurd hj (Nat.not_lt_zero _)) ?_ ?_
  · intro n s I
    exact pk_le R R (fun _ => nm_r (nI_1 p) (hJ I)) (fun q => absurd q (Nat.lt_irrefl _))
  · intro n i s hi I K
    refine pk_le R i (fun q => absurd q (by omega)) (fun _ => ?_)
    refine sc_xcan B X hc hp hi _ (fun g => sc_bt ?_) (fun g => sc_bf ?_)
    · have hl := sc_aft_lt mv sh tk i hp hc
      have hcl : (nI (sc_aft P mv sh tk c p i)).toNatClampNeg = sc_aft P mv sh tk c p i := nI_clamp (by omega)
      refine sc_xaft B X hc hp hi g _ ⟨pk_in (sc_aft P mv sh tk c p i) 1215 (by omega), ?_⟩
      rw [hcl, hG _ hl]
      cases z : G (sc_aft P mv sh tk c p i) with
      | true => exact sc_bt (ht ⟨_, ⟨p, hp, i, hi, g, rfl⟩, z⟩)
      | false => exact sc_bf (nm_r (nI_1 i) (K () (lt_s I (fun _ => z))))
    · exact nm_r (nI_1 i) (K () (lt_s I (fun q => absurd (g.symm.trans q) Bool.false_ne_true)))
theorem sc_xlw (B : sc_B P R mv sh cw tk) (X : sc_RX R mv sh cw tk rm rs rc rt) {G : Nat → Bool} (hG : ∀ e, e < sc_S P → wo e = sc_b (G e)) {c : Nat} (hc : c < sc_S P) (post : Int32 → Prop)
    (ht : (∃ e, sc_E P R mv sh cw tk c e ∧ G e = true) → post 1) (hf : (∀ e, sc_E P R mv sh cw tk c e → G e = false) → post 0) : wpX_leadsToWalker post ((nI P), (nI (sc_S P)), (nI R), ak, nk, rm, rs, rc, rt, pa, la, sa, re, de, wo) (nI c) := by
  have hP := B.2.1
  refine pk_loop (fun n i (_ : Unit) => wX_leadsToWalker_2 post (nI c) (nI P) (nI (sc_S P)) (nI R) ak nk rm rs rc rt pa la sa re de wo n (nI i)) (fun p _ => ∀ p', p' < p → ∀ i, i < R → sc_can P mv sh cw tk c p' i = true → G (sc_aft P mv sh tk c p' i) = false) P 0 () (Nat.zero_le _) (fun j hj => absurd hj (Nat.not_lt_zero _)) ?_ ?_
  · intro n s I
    refine pk_le P P (fun _ => hf ?_) (fun q => absurd q (Nat.lt_irrefl _))
    rintro e ⟨p, hp, i, hi, g, rfl⟩
    exact I p hp i hi g
  · intro n i s hi I K
    exact pk_le P i (fun q => absurd q (by omega)) (fun _ => sc_xlw12 B X hG hc hi post _ ht (fun h => K () (lt_s I h)))
end
