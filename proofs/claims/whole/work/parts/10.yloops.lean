/-! 10: the reference's double loops -/
section
variable {P R : Nat} {mv sh cw tk : Nat → Nat} {ak : Int32} {pw fr to si be cr mo tt pa la sa yd yw yl : Nat → Int32}
theorem sc_yprs15 (B : sc_B P R mv sh cw tk) (W : sc_PW pw) (Y : sc_RY R mv sh cw tk fr to si be cr mo tt) {c p : Nat} (hc : c < sc_S P) (hp : p < P) (t : Nat) (post : Int32 → Prop) (J : Int32 → Int32 → Prop)
    (hJ : J (nI (t + sc_cn (fun i => sc_can P mv sh cw tk c p i) R)) (nI (p + 1))) : ∃ n, wY_pairs_15 post J (nI c) (nI p) (nI P) (nI (sc_S P)) (nI R) ak pw fr to si be cr mo tt pa la sa yd yw yl n (nI t) 0 := by
  have hR := B.2.2.1
  refine pk_loop (fun n i s => wY_pairs_15 post J (nI c) (nI p) (nI P) (nI (sc_S P)) (nI R) ak pw fr to si be cr mo tt pa la sa yd yw yl n s (nI i)) (fun i s => s = nI (t + sc_cn (fun i => sc_can P mv sh cw tk c p i) i)) R 0 (nI t) (Nat.zero_le _) rfl ?_ ?_
  · rintro n s rfl
    exact pk_le R R (fun _ => nm_r (nI_1 p) hJ) (fun q => absurd q (Nat.lt_irrefl _))
  · rintro n i s hi rfl K
    refine pk_le R i (fun q => absurd q (by omega)) (fun _ => pk_le 12 i (fun q => absurd q (by omega)) (fun _ => ?_))
    refine sc_ycan B W Y hc hp hi _ (fun g => sc_bt ?_) (fun g => sc_bf ?_)
    · exact nm_r (nI_1 _) (nm_r (nI_1 i) (K _ (by rw [Nat.add_assoc, sc_cn_t (f := fun i => sc_can P mv sh cw tk c p i) g])))
    · exact nm_r (nI_1 i) (K _ (by rw [sc_cn_f (f := fun i => sc_can P mv sh cw tk c p i) g]))
theorem sc_yprs (B : sc_B P R mv sh cw tk) (W : sc_PW pw) (Y : sc_RY R mv sh cw tk fr to si be cr mo tt) {x : Int32} (c : Nat) (hc : c < sc_S P) (post : Int32 → Prop) (h : post (nI (sc_prs P R mv sh cw tk c P))) (hx : x = nI c := by rfl) : wpY_pairs post ((nI P), (nI (sc_S P)), (nI R), ak, pw, fr, to, si, be, cr, mo, tt, pa, la, sa, yd, yw, yl) x := by
  subst hx
  have hP := B.2.1
  refine pk_loop (fun n i s => wY_pairs_4 post (nI c) (nI P) (nI (sc_S P)) (nI R) ak pw fr to si be cr mo tt pa la sa yd yw yl n s (nI i)) (fun i s => s = nI (sc_prs P R mv sh cw tk c i)) P 0 0 (Nat.zero_le _) rfl ?_ ?_
  · rintro n s rfl
    exact pk_le P P (fun _ => h) (fun q => absurd q (Nat.lt_irrefl _))
  · rintro n i s hi rfl K
    exact pk_le P i (fun q => absurd q (by omega)) (fun _ => sc_yprs15 B W Y hc hi _ post _ (K _ rfl))
theorem sc_ylead13 (B : sc_B P R mv sh cw tk) (W : sc_PW pw) (Y : sc_RY R mv sh cw tk fr to si be cr mo tt) {c p : Nat} (hc : c < sc_S P) (hp : p < P) (e : Nat) (he : e < 2 ^ 31) (post : Int32 → Prop) (J : Int32 → Prop)
    (ht : sc_E P R mv sh cw tk c e → post 1) (hJ : (∀ i, i < R → sc_can P mv sh cw tk c p i = true → sc_aft P mv sh tk c p i ≠ e) → J (nI (p + 1))) : ∃ n, wY_leads_13 post J (nI c) (nI e) (nI p) (nI P) (nI (sc_S P)) (nI R) ak pw fr to si be cr mo tt pa la sa yd yw yl n 0 := by
  have hR := B.2.2.1
  have hS := sc_S_le B.2.1
  refine pk_loop (fun n i (_ : Unit) => wY_leads_13 post J (nI c) (nI e) (nI p) (nI P) (nI (sc_S P)) (nI R) ak pw fr to si be cr mo tt pa la sa yd yw yl n (nI i)) (fun i _ => ∀ j, j < i → sc_can P mv sh cw tk c p j = true → sc_aft P mv sh tk c p j ≠ e) R 0 () (Nat.zero_le _) (fun j hj => absurd hj (Nat.not_lt_zero _)) ?_ ?_
  · intro n s I
    exact pk_le R R (fun _ => nm_r (nI_1 p) (hJ I)) (fun q => absurd q (Nat.lt_irrefl _))
  · intro n i s hi I K
    refine pk_le R i (fun q => absurd q (by omega)) (fun _ => pk_le 12 i (fun q => absurd q (by omega)) (fun _ => ?_))
    refine sc_ycan B W Y hc hp hi _ (fun g => sc_bt ?_) (fun g => sc_bf ?_)
    · have hl := sc_aft_lt mv sh tk i hp hc
      refine sc_ytak B W Y hc hp hi _ ?_
      refine pk_eq (sc_aft P mv sh tk c p i) e (fun q => ht ⟨p, hp, i, hi, g, q⟩) (fun q => ?_)
      exact nm_r (nI_1 i) (K () (lt_s I (fun _ => q)))
    · exact nm_r (nI_1 i) (K () (lt_s I (fun q => absurd (g.symm.trans q) Bool.false_ne_true)))
theorem sc_ylead (B : sc_B P R mv sh cw tk) (W : sc_PW pw) (Y : sc_RY R mv sh cw tk fr to si be cr mo tt) {x y : Int32} (c e : Nat) (hc : c < sc_S P) (post : Int32 → Prop)
    (ht : sc_E P R mv sh cw tk c e → post 1) (hf : ¬ sc_E P R mv sh cw tk c e → post 0) (hx : x = nI c := by rfl) (hy : y = nI e := by rfl) (he : e < 2 ^ 31 := by omega) : wpY_leads post ((nI P), (nI (sc_S P)), (nI R), ak, pw, fr, to, si, be, cr, mo, tt, pa, la, sa, yd, yw, yl) x y := by
  subst hx hy
  have hP := B.2.1
  refine pk_loop (fun n i (_ : Unit) => wY_leads_2 post (nI c) (nI e) (nI P) (nI (sc_S P)) (nI R) ak pw fr to si be cr mo tt pa la sa yd yw yl n (nI i)) (fun p _ => ∀ p', p' < p → ∀ i, i < R → sc_can P mv sh cw tk c p' i = true → sc_aft P mv sh tk c p' i ≠ e) P 0 () (Nat.zero_le _) (fun j hj => absurd hj (Nat.not_lt_zero _)) ?_ ?_
  · intro n s I
    refine pk_le P P (fun _ => hf ?_) (fun q => absurd q (Nat.lt_irrefl _))
    rintro ⟨p, hp, i, hi, g, q⟩
    exact I p hp i hi g q
  · intro n i s hi I K
    exact pk_le P i (fun q => absurd q (by omega)) (fun _ => sc_ylead13 B W Y hc hi e he post _ ht (fun h => K () (lt_s I h)))
theorem sc_ygo12 (B : sc_B P R mv sh cw tk) (W : sc_PW pw) (Y : sc_RY R mv sh cw tk fr to si be cr mo tt) {V : Nat → Bool} (hV : ∀ e, e < 1215 → yw e = sc_b (V e)) {c p : Nat} (hc : c < sc_S P) (hp : p < P) (post : Int32 → Prop) (J : Int32 → Prop)
    (ht : (∃ e, sc_E P R mv sh cw tk c e ∧ V e = true) → post 1) (hJ : (∀ i, i < R → sc_can P mv sh cw tk c p i = true → V (sc_aft P mv sh tk c p i) = false) → J (nI (p + 1))) : ∃ n, wY_goesOn_12 post J (nI c) (nI p) (nI P) (nI (sc_S P)) (nI R) ak pw fr to si be cr mo tt pa la sa yd yw yl n 0 := by
  have hR := B.2.2.1
  have hS := sc_S_le B.2.1
  refine pk_loop (fun n i (_ : Unit) => wY_goesOn_12 post J (nI c) (nI p) (nI P) (nI (sc_S P)) (nI R) ak pw fr to si be cr mo tt pa la sa yd yw yl n (nI i)) (fun i _ => ∀ j, j < i → sc_can P mv sh cw tk c p j = true → V (sc_aft P mv sh tk c p j) = false) R 0 () (Nat.zero_le _) (fun j hj => absurd hj (Nat.not_lt_zero _)) ?_ ?_
  · intro n s I
    exact pk_le R R (fun _ => nm_r (nI_1 p) (hJ I)) (fun q => absurd q (Nat.lt_irrefl _))
  · intro n i s hi I K
    refine pk_le R i (fun q => absurd q (by omega)) (fun _ => pk_le 12 i (fun q => absurd q (by omega)) (fun _ => ?_))
    refine sc_ycan B W Y hc hp hi _ (fun g => sc_bt ?_) (fun g => sc_bf ?_)
    · have hl := sc_aft_lt mv sh tk i hp hc
      have hcl : (nI (sc_aft P mv sh tk c p i)).toNatClampNeg = sc_aft P mv sh tk c p i := nI_clamp (by omega)
      refine sc_ytak B W Y hc hp hi _ (br_f (nI_pos (by omega)) (pk_le 1215 (sc_aft P mv sh tk c p i) (fun q => absurd q (by omega)) (fun _ => ⟨pk_in (sc_aft P mv sh tk c p i) 1215 (by omega), ?_⟩)))
      rw [hcl, hV _ (by omega)]
      cases z : V (sc_aft P mv sh tk c p i) with
      | true => exact sc_bt (ht ⟨_, ⟨p, hp, i, hi, g, rfl⟩, z⟩)
      | false => exact sc_bf (nm_r (nI_1 i) (K () (lt_s I (fun _ => z))))
    · exact nm_r (nI_1 i) (K () (lt_s I (fun q => absurd (g.symm.trans q) Bool.false_ne_true)))
theorem sc_ygo (B : sc_B P R mv sh cw tk) (W : sc_PW pw) (Y : sc_RY R mv sh cw tk fr to si be cr mo tt) {V : Nat → Bool} (hV : ∀ e, e < 1215 → yw e = sc_b (V e)) {c : Nat} (hc : c < sc_S P) (post : Int32 → Prop)
    (ht : (∃ e, sc_E P R mv sh cw tk c e ∧ V e = true) → post 1) (hf : (∀ e, sc_E P R mv sh cw tk c e → V e = false) → post 0) : wpY_goesOn post ((nI P), (nI (sc_S P)), (nI R), ak, pw, fr, to, si, be, cr, mo, tt, pa, la, sa, yd, yw, yl) (nI c) := by
  have hP := B.2.1
  refine pk_loop (fun n i (_ : Unit) => wY_goesOn_2 post (nI c) (nI P) (nI (sc_S P)) (nI R) ak pw fr to si be cr mo tt pa la sa yd yw yl n (nI i)) (fun p _ => ∀ p', p' < p → ∀ i, i < R → sc_can P mv sh cw tk c p' i = true → V (sc_aft P mv sh tk c p' i) = false) P 0 () (Nat.zero_le _) (fun j hj => absurd hj (Nat.not_lt_zero _)) ?_ ?_
  · intro n s I
    refine pk_le P P (fun _ => hf ?_) (fun q => absurd q (Nat.lt_irrefl _))
    rintro e ⟨p, hp, i, hi, g, rfl⟩
    exact I p hp i hi g
  · intro n i s hi I K
    exact pk_le P i (fun q => absurd q (by omega)) (fun _ => sc_ygo12 B W Y hV hc hi post _ ht (fun h => K () (lt_s I h)))
end
