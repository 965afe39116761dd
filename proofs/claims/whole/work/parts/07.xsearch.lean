/-! 7: the component's search and its striking -/
def sc_En (D q : Nat → Nat) (m : Nat) (nk : Int32) (re de : Nat → Int32) : Prop := nk = nI m ∧ (∀ j, j < m → re j = nI (q j)) ∧ (∀ c, c < 1215 → de c = sc_xe (D c))
theorem sc_n0 : vp_nar .boolean 0 = 0 := rfl
theorem sc_n1 : vp_nar .boolean 1 = 1 := rfl
theorem sc_m1 (x : Int32) : x + (-1) = x - 1 := (Int32.sub_eq_add_neg x 1).symm
section
variable {P R : Nat} {mv sh cw tk : Nat → Nat} {ak nk : Int32} {rm rs rc rt pa la sa re de wo : Nat → Int32}
theorem sc_xrf12 (B : sc_B P R mv sh cw tk) (X : sc_RX R mv sh cw tk rm rs rc rt) {D q D1 q1 : Nat → Nat} {m k p m1 : Nat} (hk : k < m) (hp : p < P)
    (h1 : sc_PG P R mv sh cw tk D q m k D1 q1 m1 p 0) (hE : sc_En D1 q1 m1 nk re de) (post : SX → Prop) (J : Int32 → Int32 → (Nat → Int32) → (Nat → Int32) → (Nat → Int32) → (Nat → Int32) → (Nat → Int32) → (Nat → Int32) → (Nat → Int32) → (Nat → Int32) → (Nat → Int32) → (Nat → Int32) → Prop)
    (hJ : ∀ D2 q2 m2 nk re de, sc_PG P R mv sh cw tk D q m k D2 q2 m2 p R → sc_En D2 q2 m2 nk re de → J (nI (p + 1)) nk rm rs rc rt pa la sa re de wo) : ∃ n, wX_reachFrom_12 post J (nI (q k)) (nI p) (nI P) (nI (sc_S P)) (nI R) ak n 0 nk rm rs rc rt pa la sa re de wo := by
  have hR := B.2.2.1
  have hS := sc_S_le B.2.1
  refine pk_loop (fun n i (s : Int32 × (Nat → Int32) × (Nat → Int32)) => wX_reachFrom_12 post J (nI (q k)) (nI p) (nI P) (nI (sc_S P)) (nI R) ak n (nI i) s.1 rm rs rc rt pa la sa s.2.1 s.2.2 wo) (fun i s => ∃ D2 q2 m2, sc_PG P R mv sh cw tk D q m k D2 q2 m2 p i ∧ sc_En D2 q2 m2 s.1 s.2.1 s.2.2) R 0 (nk, re, de) (Nat.zero_le _) ⟨D1, q1, m1, h1, hE⟩ ?_ ?_
  · rintro n ⟨nk, re, de⟩ ⟨D2, q2, m2, g, hE⟩
    exact pk_le R R (fun _ => nm_r (nI_1 p) (hJ D2 q2 m2 nk re de g hE)) (fun q => absurd q (Nat.lt_irrefl _))
  · rintro n i ⟨nk, re, de⟩ hi ⟨D2, q2, m2, g, hE⟩ K
    obtain ⟨qe, hc, hn, hle, hm2⟩ := sc_PG_qk g hk
    refine pk_le R i (fun q => absurd q (by omega)) (fun _ => ?_)
    refine sc_xcan B X hc hp hi _ (fun gc => sc_bt ?_) (fun gc => sc_bf ?_)
    · have hl := sc_aft_lt mv sh tk i hp hc
      have hcl : (nI (sc_aft P mv sh tk (q k) p i)).toNatClampNeg = sc_aft P mv sh tk (q k) p i := nI_clamp (by omega)
      have hcq : (nI (q k)).toNatClampNeg = q k := nI_clamp (by omega)
      refine sc_xaft B X hc hp hi gc _ ⟨pk_in (sc_aft P mv sh tk (q k) p i) 1215 (by omega), ?_⟩
      obtain ⟨E1, E2, E3⟩ := hE
      dsimp only at E1 E2 E3
      subst E1
      have hcm : (nI m2).toNatClampNeg = m2 := nI_clamp (by omega)
      by_cases z : D2 (sc_aft P mv sh tk (q k) p i) = 0
      · obtain ⟨hm3, g'⟩ := sc_PG_new g hk hp hi gc z
        refine br_t (by dsimp only; rw [hcl, E3 _ (by omega), z]; rfl) ⟨pk_in (q k) 1215 (by omega), pk_in (sc_aft P mv sh tk (q k) p i) 1215 (by omega), nm_e ⟨pk_in m2 1215 (by omega), nm_e (nm_e (nm_r (nI_1 i) (K (_, _, _) ⟨_, _, _, g', nI_1 m2, fun j hj => ?_, fun c hc' => ?_⟩)))⟩⟩
        · show upd re (nI m2).toNatClampNeg _ j = _
          rw [hcm]
          exact sc_upd (fun h => E2 j (by omega))
        · show upd de (nI (sc_aft P mv sh tk (q k) p i)).toNatClampNeg (de (nI (q k)).toNatClampNeg + 1) c = _
          rw [hcl, hcq, E3 (q k) (by omega), sc_xe_1 hn]
          by_cases e : c = sc_aft P mv sh tk (q k) p i
          · rw [e, pk_us, sc_up_s]
          · rw [pk_un e, sc_up_n e]; exact E3 c hc'
      · refine br_f (by dsimp only; rw [hcl, E3 _ (by omega), sc_xe_0 (sc_D_lt g.1 (sc_aft P mv sh tk (q k) p i))]; exact z) ?_
        exact nm_r (nI_1 i) (K (nI m2, re, de) ⟨D2, q2, m2, sc_PG_old g z, rfl, E2, E3⟩)
    · exact nm_r (nI_1 i) (K (nk, re, de) ⟨D2, q2, m2, sc_PG_no g gc, hE⟩)
theorem sc_xrf (B : sc_B P R mv sh cw tk) (X : sc_RX R mv sh cw tk rm rs rc rt) {D q : Nat → Nat} {m k : Nat} (hk : k < m) {x : Int32} (hx : x = nI (q k))
    (I : sc_BI (sc_S P) (sc_st P) (sc_E P R mv sh cw tk) D q m) (hb : sc_BH D q m k) (hE : sc_En D q m nk re de) (post : SX → Prop)
    (hP : ∀ D2 q2 m2 nk re de, sc_PG P R mv sh cw tk D q m k D2 q2 m2 P 0 → sc_En D2 q2 m2 nk re de → post ((nI P), (nI (sc_S P)), (nI R), ak, nk, rm, rs, rc, rt, pa, la, sa, re, de, wo)) : wpX_reachFrom post ((nI P), (nI (sc_S P)), (nI R), ak, nk, rm, rs, rc, rt, pa, la, sa, re, de, wo) x := by
  subst hx
  have hP4 := B.2.1
  refine pk_loop (fun n i (s : Int32 × (Nat → Int32) × (Nat → Int32)) => wX_reachFrom_2 post (nI (q k)) (nI P) (nI (sc_S P)) (nI R) ak n (nI i) s.1 rm rs rc rt pa la sa s.2.1 s.2.2 wo) (fun p s => ∃ D2 q2 m2, sc_PG P R mv sh cw tk D q m k D2 q2 m2 p 0 ∧ sc_En D2 q2 m2 s.1 s.2.1 s.2.2) P 0 (nk, re, de) (Nat.zero_le _) ⟨D, q, m, sc_PG_0 I hb, hE⟩ ?_ ?_
  · rintro n ⟨nk, re, de⟩ ⟨D2, q2, m2, g, hE⟩
    exact pk_le P P (fun _ => hP D2 q2 m2 nk re de g hE) (fun q => absurd q (Nat.lt_irrefl _))
  · rintro n p ⟨nk, re, de⟩ hp ⟨D2, q2, m2, g, hE⟩ K
    exact pk_le P p (fun q => absurd q (by omega)) (fun _ => sc_xrf12 B X hk hp g hE post _ (fun D3 q3 m3 nk re de g hE => K (nk, re, de) ⟨D3, q3, m3, sc_PG_row g, hE⟩))
theorem sc_xfr59 (B : sc_B P R mv sh cw tk) (X : sc_RX R mv sh cw tk rm rs rc rt) {D q : Nat → Nat} {m : Nat} (I : sc_BI (sc_S P) (sc_st P) (sc_E P R mv sh cw tk) D q m) (hb : sc_BH D q m 0) (hm : 0 < m) (hE : sc_En D q m nk re de) (post : SX → Prop)
    (hP : ∀ D q m re de, sc_Fin (sc_S P) (sc_st P) (sc_E P R mv sh cw tk) D q m → sc_En D q m (nI m) re de → post ((nI P), (nI (sc_S P)), (nI R), ak, (nI m), rm, rs, rc, rt, pa, la, sa, re, de, wo)) : ∃ n, wX_findReached_59 post n 0 (nI P) (nI (sc_S P)) (nI R) ak nk rm rs rc rt pa la sa re de wo := by
  have hS := sc_S_le B.2.1
  refine pk_loop (fun n i (s : Int32 × (Nat → Int32) × (Nat → Int32)) => wX_findReached_59 post n (nI i) (nI P) (nI (sc_S P)) (nI R) ak s.1 rm rs rc rt pa la sa s.2.1 s.2.2 wo) (fun k s => ∃ D q m, sc_BI (sc_S P) (sc_st P) (sc_E P R mv sh cw tk) D q m ∧ sc_BX (sc_E P R mv sh cw tk) D q k ∧ (k < m → sc_BH D q m k) ∧ k ≤ m ∧ sc_En D q m s.1 s.2.1 s.2.2) 1215 0 (nk, re, de) (Nat.zero_le _)
    ⟨D, q, m, I, fun j hj => absurd hj (Nat.not_lt_zero _), fun _ => hb, Nat.zero_le _, hE⟩ ?_ ?_
  · rintro n ⟨nk, re, de⟩ ⟨D, q, m, I, hX, _, hk, hE⟩
    have hm := sc_BI_le I
    have e := hE.1
    dsimp only at e
    subst e
    exact pk_le 1215 1215 (fun _ => hP D q m re de (sc_Fin_of I hX (by omega)) hE) (fun q => absurd q (Nat.lt_irrefl _))
  · rintro n k ⟨nk, re, de⟩ hk ⟨D, q, m, I, hX, hB, hkm, hE⟩ K
    have hm := sc_BI_le I
    have e := hE.1
    dsimp only at e
    subst e
    refine pk_le 1215 k (fun q => absurd q (by omega)) (fun _ => ?_)
    refine pk_le m k (fun hl => hP D q m re de (sc_Fin_of I hX hl) hE) (fun hl => ⟨pk_in k 1215 (by omega), ?_⟩)
    refine sc_xrf B X hl (by rw [nI_clamp (by omega)]; exact hE.2.1 k hl) I (hB hl) hE _ (fun D2 q2 m2 nk re de g hE => ?_)
    obtain ⟨a1, a2, a3, a4⟩ := sc_PG_end g hl I hX
    exact nm_r (nI_1 k) (K (nk, re, de) ⟨D2, q2, m2, a1, a2, a3, a4, hE⟩)
theorem sc_xfr (B : sc_B P R mv sh cw tk) (X : sc_RX R mv sh cw tk rm rs rc rt) (post : SX → Prop)
    (hP : ∀ D q m re de, sc_Fin (sc_S P) (sc_st P) (sc_E P R mv sh cw tk) D q m → sc_En D q m (nI m) re de → post ((nI P), (nI (sc_S P)), (nI R), ak, (nI m), rm, rs, rc, rt, pa, la, sa, re, de, wo)) : wpX_findReached post ((nI P), (nI (sc_S P)), (nI R), ak, nk, rm, rs, rc, rt, pa, la, sa, re, de, wo) := by
  have hS := sc_S_le B.2.1
  have hP4 := B.2.1
  have hs := sc_st_lt P
  refine pk_loop (fun n i s => wX_findReached_2 post (nI P) (nI (sc_S P)) (nI R) ak nk n (nI i) rm rs rc rt pa la sa re s wo) (fun i s => ∀ c, c < i → s c = -2) 1215 0 de (Nat.zero_le _) (fun j hj => absurd hj (Nat.not_lt_zero _)) ?_ ?_
  · intro n s I
    refine pk_le 1215 1215 (fun _ => ?_) (fun q => absurd q (Nat.lt_irrefl _))
    refine sc_xpow (P + 1) _ ?_ (hx := nI_1 P)
    refine nm_r (e' := nI (sc_st P)) (pk_mul P (3 ^ (P + 1))) ⟨pk_in (sc_st P) 1215 (by omega), nm_e (nm_e ?_)⟩
    rw [nI_clamp (show sc_st P < 2 ^ 31 by omega)]
    refine sc_xfr59 B X (D := sc_up (fun _ => 0) (sc_st P) 1) (q := sc_up (fun _ => 0) 0 (sc_st P)) (m := 1) (sc_BI_0 hs _ sc_up_s) (fun j hj => ?_) (by decide) ⟨rfl, fun j hj => ?_, fun c hc => ?_⟩ post hP
    · have e : j = 0 := by omega
      rw [e]; exact Nat.le_succ _
    · have e : j = 0 := by omega
      rw [e, pk_us, sc_up_s]
    · by_cases e : c = sc_st P
      · rw [e, pk_us, sc_up_s]; rfl
      · rw [pk_un e, sc_up_n e]; exact I c hc
  · intro n i s hi I K
    refine pk_le 1215 i (fun q => absurd q (by omega)) (fun _ => ⟨pk_in i 1215 (by omega), nm_e (nm_r (nI_1 i) (K _ ?_))⟩)
    rw [nI_clamp (by omega)]
    exact lt_s (fun a ha => by rw [pk_un (by omega)]; exact I a ha) pk_us
end
