/-! 16: what changes the rules and the alarms -/
theorem sc_up_v {α : Type} {f : Nat → α} {k j : Nat} {v : α} {Q : α → Prop} (hv : j = k → Q v) (hf : j ≠ k → Q (f j)) : Q (sc_up f k v j) := by
  by_cases e : j = k
  · rw [e, sc_up_s]; exact hv e
  · rw [sc_up_n e]; exact hf e
theorem sc_B_up {P R : Nat} {mv sh cw tk : Nat → Nat} (B : sc_B P R mv sh cw tk) {a b c d : Nat} (hR : R < 12) (ha : a ≤ 8) (hb : b ≤ 15) (hc : c ≤ 11) (hd : d ≤ 4) : sc_B P (R + 1) (sc_up mv R a) (sc_up sh R b) (sc_up cw R c) (sc_up tk R d) := by
  obtain ⟨h1, h2, h3, h4⟩ := B
  refine ⟨h1, h2, by omega, fun i hi => ⟨?_, ?_, ?_, ?_⟩⟩
  · exact sc_up_v (Q := fun x => x < 9) (fun _ => by omega) (fun q => (h4 i (by omega)).1)
  · exact sc_up_v (Q := fun x => x < 16) (fun _ => by omega) (fun q => (h4 i (by omega)).2.1)
  · exact sc_up_v (Q := fun x => x < 12) (fun _ => by omega) (fun q => (h4 i (by omega)).2.2.1)
  · exact sc_up_v (Q := fun x => x < 5) (fun _ => by omega) (fun q => (h4 i (by omega)).2.2.2)
theorem sc_RX_up {R : Nat} {mv sh cw tk : Nat → Nat} {rm rs rc rt : Nat → Int32} (X : sc_RX R mv sh cw tk rm rs rc rt) (a b c d : Nat) (k : Nat) (hk : k = R) :
    sc_RX (R + 1) (sc_up mv R a) (sc_up sh R b) (sc_up cw R c) (sc_up tk R d) (upd rm k (nI a)) (upd rs k (nI b)) (upd rc k (nI c)) (upd rt k (nI d)) := by
  subst hk
  intro i hi
  exact ⟨sc_upd (fun q => (X i (by omega)).1), sc_upd (fun q => (X i (by omega)).2.1), sc_upd (fun q => (X i (by omega)).2.2.1), sc_upd (fun q => (X i (by omega)).2.2.2)⟩
theorem sc_upw {f : Nat → Int32} {g : Nat → Nat} (w : Nat → Nat) {k v j : Nat} {x : Int32} (hx : x = nI (w v)) (h : j ≠ k → f j = nI (w (g j))) : upd f k x j = nI (w (sc_up g k v j)) := by
  by_cases e : j = k
  · rw [e, pk_us, sc_up_s, hx]
  · rw [pk_un e, sc_up_n e]; exact h e
theorem sc_RY_up {R : Nat} {mv sh cw tk : Nat → Nat} {fr to si be cr mo tt : Nat → Int32} (Y : sc_RY R mv sh cw tk fr to si be cr mo tt) {a b c d : Nat} (ha : a ≤ 8) (hb : b ≤ 15) (hc : c ≤ 11) (k : Nat) (hk : k = R) :
    sc_RY (R + 1) (sc_up mv R a) (sc_up sh R b) (sc_up cw R c) (sc_up tk R d) (upd fr k (nI a / 3)) (upd to k (nI a - nI a / 3 * 3)) (upd si k (nI b / 4)) (upd be k (nI b - nI b / 4 * 4)) (upd cr k (nI c / 4)) (upd mo k (nI c - nI c / 4 * 4)) (upd tt k (nI d)) := by
  subst hk
  intro i hi
  refine ⟨?_, ?_, ?_, ?_, ?_, ?_, ?_⟩
  · exact sc_upw (fun x => x / 3) (pk_div (by omega) (by decide) (by decide)) (fun q => (Y i (by omega)).1)
  · exact sc_upw (fun x => x % 3) (pk_rem (by omega) (by decide) (by decide)) (fun q => (Y i (by omega)).2.1)
  · exact sc_upw (fun x => x / 4) (pk_div (by omega) (by decide) (by decide)) (fun q => (Y i (by omega)).2.2.1)
  · exact sc_upw (fun x => x % 4) (pk_rem (by omega) (by decide) (by decide)) (fun q => (Y i (by omega)).2.2.2.1)
  · exact sc_upw (fun x => x / 4) (pk_div (by omega) (by decide) (by decide)) (fun q => (Y i (by omega)).2.2.2.2.1)
  · exact sc_upw (fun x => x % 4) (pk_rem (by omega) (by decide) (by decide)) (fun q => (Y i (by omega)).2.2.2.2.2.1)
  · exact sc_upd (fun q => (Y i (by omega)).2.2.2.2.2.2)
theorem sc_AL_up {A : Nat} {ap al az : Nat → Nat} {pa la sa : Nat → Int32} (L : sc_AL A ap al az pa la sa) {a b c : Nat} (hA : A < 4) (ha : a ≤ 2) (hb : b ≤ 4) (hc : c ≤ 3) (k : Nat) (hk : k = A) :
    sc_AL (A + 1) (sc_up ap A a) (sc_up al A b) (sc_up az A c) (upd pa k (nI a)) (upd la k (nI b)) (upd sa k (nI c)) := by
  subst hk
  refine ⟨by omega, fun i hi => ⟨sc_upd (fun q => (L.2 i (by omega)).1), ?_, sc_upd (fun q => (L.2 i (by omega)).2.2.1), ?_, sc_upd (fun q => (L.2 i (by omega)).2.2.2.2.1), ?_⟩⟩
  · exact sc_up_v (Q := fun x => x < 3) (fun _ => by omega) (fun q => (L.2 i (by omega)).2.1)
  · exact sc_up_v (Q := fun x => x < 5) (fun _ => by omega) (fun q => (L.2 i (by omega)).2.2.2.1)
  · exact sc_up_v (Q := fun x => x < 4) (fun _ => by omega) (fun q => (L.2 i (by omega)).2.2.2.2.2)
theorem sc_B_sf {P R i k : Nat} {mv sh cw tk : Nat → Nat} (B : sc_B P (R + 1) mv sh cw tk) (hk : k ≤ R) : sc_B P R (sc_sf i mv k) (sc_sf i sh k) (sc_sf i cw k) (sc_sf i tk k) := by
  obtain ⟨h1, h2, h3, h4⟩ := B
  refine ⟨h1, h2, by omega, fun j hj => ⟨?_, ?_, ?_, ?_⟩⟩
  · exact sc_sf_v (Q := fun x => x < 9) (h4 j (by omega)).1 (h4 (j + 1) (by omega)).1
  · exact sc_sf_v (Q := fun x => x < 16) (h4 j (by omega)).2.1 (h4 (j + 1) (by omega)).2.1
  · exact sc_sf_v (Q := fun x => x < 12) (h4 j (by omega)).2.2.1 (h4 (j + 1) (by omega)).2.2.1
  · exact sc_sf_v (Q := fun x => x < 5) (h4 j (by omega)).2.2.2 (h4 (j + 1) (by omega)).2.2.2
theorem sc_sf_w {i k j : Nat} {f : Nat → Int32} {g : Nat → Nat} (w : Nat → Nat) (h0 : f j = nI (w (g j))) (h1 : f (j + 1) = nI (w (g (j + 1)))) : sc_sf i f k j = nI (w (sc_sf i g k j)) := by
  unfold sc_sf
  by_cases e : i ≤ j ∧ j < k
  · rw [if_pos e, if_pos e]; exact h1
  · rw [if_neg e, if_neg e]; exact h0
theorem sc_RX_sf {R i k : Nat} {mv sh cw tk : Nat → Nat} {rm rs rc rt : Nat → Int32} (X : sc_RX (R + 1) mv sh cw tk rm rs rc rt) : sc_RX R (sc_sf i mv k) (sc_sf i sh k) (sc_sf i cw k) (sc_sf i tk k) (sc_sf i rm k) (sc_sf i rs k) (sc_sf i rc k) (sc_sf i rt k) := by
  intro j hj
  have a := X j (by omega)
  have b := X (j + 1) (by omega)
  exact ⟨sc_sf_w (fun x => x) a.1 b.1, sc_sf_w (fun x => x) a.2.1 b.2.1, sc_sf_w (fun x => x) a.2.2.1 b.2.2.1, sc_sf_w (fun x => x) a.2.2.2 b.2.2.2⟩
theorem sc_RY_sf {R i k : Nat} {mv sh cw tk : Nat → Nat} {fr to si be cr mo tt : Nat → Int32} (Y : sc_RY (R + 1) mv sh cw tk fr to si be cr mo tt) : sc_RY R (sc_sf i mv k) (sc_sf i sh k) (sc_sf i cw k) (sc_sf i tk k) (sc_sf i fr k) (sc_sf i to k) (sc_sf i si k) (sc_sf i be k) (sc_sf i cr k) (sc_sf i mo k) (sc_sf i tt k) := by
  intro j hj
  have a := Y j (by omega)
  have b := Y (j + 1) (by omega)
  exact ⟨sc_sf_w (fun x => x / 3) a.1 b.1, sc_sf_w (fun x => x % 3) a.2.1 b.2.1, sc_sf_w (fun x => x / 4) a.2.2.1 b.2.2.1, sc_sf_w (fun x => x % 4) a.2.2.2.1 b.2.2.2.1, sc_sf_w (fun x => x / 4) a.2.2.2.2.1 b.2.2.2.2.1, sc_sf_w (fun x => x % 4) a.2.2.2.2.2.1 b.2.2.2.2.2.1, sc_sf_w (fun x => x) a.2.2.2.2.2.2 b.2.2.2.2.2.2⟩
section
variable {P R A m : Nat} {mv sh cw tk ap al az D q : Nat → Nat} {ak nk : Int32} {rm rs rc rt pa la sa re de wo : Nat → Int32} {pw fr to si be cr mo tt yd yw yl : Nat → Int32}
/-- both searches, one behind the other -/
theorem sc_xboth (B : sc_B P R mv sh cw tk) (X : sc_RX R mv sh cw tk rm rs rc rt) (post : SX → Prop)
    (hP : ∀ D q m re de G wo, sc_Fin (sc_S P) (sc_st P) (sc_E P R mv sh cw tk) D q m → sc_En D q m (nI m) re de → sc_Gr (sc_E P R mv sh cw tk) D G → (∀ c, c < sc_S P → wo c = sc_b (G c)) → post ((nI P), (nI (sc_S P)), (nI R), ak, nI m, rm, rs, rc, rt, pa, la, sa, re, de, wo)) :
    wpX_findReached (fun u => match u with | (f1, f2, f3, f4, f5, a1, a2, a3, a4, a5, a6, a7, a8, a9, a10) => wpX_findEndless (fun u => match u with | (g1, g2, g3, g4, g5, b1, b2, b3, b4, b5, b6, b7, b8, b9, b10) => post (g1, g2, g3, g4, g5, b1, b2, b3, b4, b5, b6, b7, b8, b9, b10)) (f1, f2, f3, f4, f5, a1, a2, a3, a4, a5, a6, a7, a8, a9, a10)) ((nI P), (nI (sc_S P)), (nI R), ak, nk, rm, rs, rc, rt, pa, la, sa, re, de, wo) :=
  sc_xfr B X _ (fun D q m re de F hE => sc_xfe B X F hE _ (fun G wo hG hw => hP D q m re de G wo F hE hG hw))
theorem sc_xdrop (B : sc_B P (R + 1) mv sh cw tk) (X : sc_RX (R + 1) mv sh cw tk rm rs rc rt) {i : Nat} (hi : i < R + 1) (post : Int32 → SX → Prop)
    (hP : ∀ D q m re de G wo, sc_Fin (sc_S P) (sc_st P) (sc_E P R (sc_sf i mv R) (sc_sf i sh R) (sc_sf i cw R) (sc_sf i tk R)) D q m → sc_En D q m (nI m) re de → sc_Gr (sc_E P R (sc_sf i mv R) (sc_sf i sh R) (sc_sf i cw R) (sc_sf i tk R)) D G → (∀ c, c < sc_S P → wo c = sc_b (G c)) →
      post (nI R) ((nI P), (nI (sc_S P)), (nI R), ak, nI m, sc_sf i rm R, sc_sf i rs R, sc_sf i rc R, sc_sf i rt R, pa, la, sa, re, de, wo)) : wpX_dropRule post ((nI P), (nI (sc_S P)), nI (R + 1), ak, nk, rm, rs, rc, rt, pa, la, sa, re, de, wo) (nI i) := by
  have hR := B.2.2.1
  refine br_f (nI_pos (by omega)) (br_t (nI_lt hi (by omega)) ?_)
  refine pk_loop (fun n k (s : (Nat → Int32) × (Nat → Int32) × (Nat → Int32) × (Nat → Int32)) => wX_dropRule_16 post (nI P) (nI (sc_S P)) (nI (R + 1)) ak nk n (nI k) s.1 s.2.1 s.2.2.1 s.2.2.2 pa la sa re de wo) (fun k s => i ≤ k ∧ s = (sc_sf i rm k, sc_sf i rs k, sc_sf i rc k, sc_sf i rt k)) R i (rm, rs, rc, rt) (by omega) ⟨Nat.le_refl _, by rw [sc_sf_0, sc_sf_0, sc_sf_0, sc_sf_0]⟩ ?_ ?_
  · rintro n s ⟨_, rfl⟩
    refine pk_le (R + 1) (R + 1) (fun _ => nm_r (nI_pred R) ?_) (fun q => absurd q (Nat.lt_irrefl _)) (hy := nI_1 R)
    exact sc_xfr (sc_B_sf B (Nat.le_refl _)) (sc_RX_sf X) _ (fun D q m re de F hE => sc_xfe (sc_B_sf B (Nat.le_refl _)) (sc_RX_sf X) F hE _ (fun G wo hG hw => hP D q m re de G wo F hE hG hw))
  · rintro n k s hk ⟨hik, rfl⟩ K
    have hk1 : (nI k).toNatClampNeg = k := nI_clamp (by omega)
    have hk2 : (nI k + 1).toNatClampNeg = k + 1 := by rw [nI_1]; exact nI_clamp (by omega)
    have v1 : vp_in (nI k) 12 := pk_in k 12 (by omega)
    have v2 : vp_in (nI k + 1) 12 := pk_in (k + 1) 12 (by omega) (nI_1 k)
    refine pk_le (R + 1) (k + 1) (fun q => absurd q (by omega)) (fun _ => ?_) (hy := nI_1 k)
    have u : ∀ f : Nat → Int32, upd (sc_sf i f k) (nI k).toNatClampNeg (sc_sf i f k (nI k + 1).toNatClampNeg) = sc_sf i f (k + 1) := fun f => by rw [hk1, hk2, sc_sf_k, sc_sf_u f hik]
    exact ⟨v2, v1, nm_r (u rm) ⟨v2, v1, nm_r (u rs) ⟨v2, v1, nm_r (u rc) ⟨v2, v1, nm_r (u rt) (nm_r (nI_1 k) (K (sc_sf i rm (k + 1), sc_sf i rs (k + 1), sc_sf i rc (k + 1), sc_sf i rt (k + 1)) ⟨by omega, rfl⟩))⟩⟩⟩⟩
theorem sc_ydrop (hR : R + 1 ≤ 12) {i : Nat} (hi : i < R + 1) (post : Int32 → SY → Prop)
    (hP : post (nI R) ((nI P), (nI (sc_S P)), (nI R), ak, pw, sc_sf i fr R, sc_sf i to R, sc_sf i si R, sc_sf i be R, sc_sf i cr R, sc_sf i mo R, sc_sf i tt R, pa, la, sa, yd, yw, yl)) : wpY_dropRule post ((nI P), (nI (sc_S P)), nI (R + 1), ak, pw, fr, to, si, be, cr, mo, tt, pa, la, sa, yd, yw, yl) (nI i) := by
  refine br_f (nI_pos (by omega)) (br_t (nI_lt hi (by omega)) ?_)
  refine pk_loop (fun n k (s : (Nat → Int32) × (Nat → Int32) × (Nat → Int32) × (Nat → Int32) × (Nat → Int32) × (Nat → Int32) × (Nat → Int32)) => wY_dropRule_16 post (nI P) (nI (sc_S P)) (nI (R + 1)) ak n (nI k) pw s.1 s.2.1 s.2.2.1 s.2.2.2.1 s.2.2.2.2.1 s.2.2.2.2.2.1 s.2.2.2.2.2.2 pa la sa yd yw yl) (fun k s => i ≤ k ∧ s = (sc_sf i fr k, sc_sf i to k, sc_sf i si k, sc_sf i be k, sc_sf i cr k, sc_sf i mo k, sc_sf i tt k)) R i (fr, to, si, be, cr, mo, tt) (by omega) ⟨Nat.le_refl _, by rw [sc_sf_0, sc_sf_0, sc_sf_0, sc_sf_0, sc_sf_0, sc_sf_0, sc_sf_0]⟩ ?_ ?_
  · rintro n s ⟨_, rfl⟩
    refine pk_le R R (fun _ => nm_r (nI_pred R) hP) (fun q => absurd q (Nat.lt_irrefl _)) (hx := nI_pred R)
  · rintro n k s hk ⟨hik, rfl⟩ K
    have hk1 : (nI k).toNatClampNeg = k := nI_clamp (by omega)
    have hk2 : (nI k + 1).toNatClampNeg = k + 1 := by rw [nI_1]; exact nI_clamp (by omega)
    have v1 : vp_in (nI k) 12 := pk_in k 12 (by omega)
    have v2 : vp_in (nI k + 1) 12 := pk_in (k + 1) 12 (by omega) (nI_1 k)
    refine pk_le R k (fun q => absurd q (by omega)) (fun _ => pk_le 11 k (fun q => absurd q (by omega)) (fun _ => ?_)) (hx := nI_pred R)
    have u : ∀ f : Nat → Int32, upd (sc_sf i f k) (nI k).toNatClampNeg (sc_sf i f k (nI k + 1).toNatClampNeg) = sc_sf i f (k + 1) := fun f => by rw [hk1, hk2, sc_sf_k, sc_sf_u f hik]
    exact ⟨v2, v1, nm_r (u fr) ⟨v2, v1, nm_r (u to) ⟨v2, v1, nm_r (u si) ⟨v2, v1, nm_r (u be) ⟨v2, v1, nm_r (u cr) ⟨v2, v1, nm_r (u mo) ⟨v2, v1, nm_r (u tt) (nm_r (nI_1 k) (K (sc_sf i fr (k + 1), sc_sf i to (k + 1), sc_sf i si (k + 1), sc_sf i be (k + 1), sc_sf i cr (k + 1), sc_sf i mo (k + 1), sc_sf i tt (k + 1)) ⟨by omega, rfl⟩))⟩⟩⟩⟩⟩⟩⟩
end
