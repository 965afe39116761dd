/-! 3: how far a search through one state has come; how far a round of striking has come -/
def sc_PG (P R : Nat) (mv sh cw tk : Nat → Nat) (D q : Nat → Nat) (m k : Nat) (D' q' : Nat → Nat) (m' p i : Nat) : Prop :=
  sc_BI (sc_S P) (sc_st P) (sc_E P R mv sh cw tk) D' q' m' ∧ sc_BH D' q' m' k ∧ m ≤ m' ∧ (∀ j, j < m → q' j = q j) ∧ (∀ c, D c ≠ 0 → D' c = D c) ∧
  (∀ p' i', p' < p → i' < R → sc_can P mv sh cw tk (q k) p' i' = true → D' (sc_aft P mv sh tk (q k) p' i') ≠ 0) ∧
  (∀ i', i' < i → sc_can P mv sh cw tk (q k) p i' = true → D' (sc_aft P mv sh tk (q k) p i') ≠ 0)
theorem sc_PG_0 {P R : Nat} {mv sh cw tk D q : Nat → Nat} {m k : Nat} (I : sc_BI (sc_S P) (sc_st P) (sc_E P R mv sh cw tk) D q m) (hb : sc_BH D q m k) : sc_PG P R mv sh cw tk D q m k D q m 0 0 :=
  ⟨I, hb, Nat.le_refl _, fun _ _ => rfl, fun _ _ => rfl, fun _ _ h => absurd h (Nat.not_lt_zero _), fun _ h => absurd h (Nat.not_lt_zero _)⟩
theorem sc_PG_row {P R : Nat} {mv sh cw tk D q D' q' : Nat → Nat} {m k m' p : Nat} (h : sc_PG P R mv sh cw tk D q m k D' q' m' p R) : sc_PG P R mv sh cw tk D q m k D' q' m' (p + 1) 0 := by
  obtain ⟨h1, h2, h3, h4, h5, h6, h7⟩ := h
  refine ⟨h1, h2, h3, h4, h5, fun p' i' hp hi hc => ?_, fun _ h => absurd h (Nat.not_lt_zero _)⟩
  by_cases e : p' = p
  · subst e; exact h7 i' hi hc
  · exact h6 p' i' (by omega) hi hc
theorem sc_PG_no {P R : Nat} {mv sh cw tk D q D' q' : Nat → Nat} {m k m' p i : Nat} (h : sc_PG P R mv sh cw tk D q m k D' q' m' p i) (hc : sc_can P mv sh cw tk (q k) p i = false) : sc_PG P R mv sh cw tk D q m k D' q' m' p (i + 1) := by
  obtain ⟨h1, h2, h3, h4, h5, h6, h7⟩ := h
  refine ⟨h1, h2, h3, h4, h5, h6, fun i' hi hc' => ?_⟩
  by_cases e : i' = i
  · subst e; rw [hc] at hc'; exact absurd hc' (by decide)
  · exact h7 i' (by omega) hc'
theorem sc_PG_old {P R : Nat} {mv sh cw tk D q D' q' : Nat → Nat} {m k m' p i : Nat} (h : sc_PG P R mv sh cw tk D q m k D' q' m' p i) (hc : D' (sc_aft P mv sh tk (q k) p i) ≠ 0) : sc_PG P R mv sh cw tk D q m k D' q' m' p (i + 1) := by
  obtain ⟨h1, h2, h3, h4, h5, h6, h7⟩ := h
  refine ⟨h1, h2, h3, h4, h5, h6, fun i' hi hc' => ?_⟩
  by_cases e : i' = i
  · subst e; exact hc
  · exact h7 i' (by omega) hc'
theorem sc_PG_qk {P R : Nat} {mv sh cw tk D q D' q' : Nat → Nat} {m k m' p i : Nat} (h : sc_PG P R mv sh cw tk D q m k D' q' m' p i) (hk : k < m) : q' k = q k ∧ q k < sc_S P ∧ D' (q k) ≠ 0 ∧ D' (q k) ≤ k + 1 ∧ m' ≤ sc_S P := by
  obtain ⟨h1, h2, h3, h4, h5, h6, h7⟩ := h
  have e := h4 k hk
  have a := h1.2.2.2.2.1 k (by omega)
  rw [e] at a
  exact ⟨e, h1.2.2.1 _ a.1, a.1, a.2, sc_BI_le h1⟩
theorem sc_D_lt {S st : Nat} {E : Nat → Nat → Prop} {D q : Nat → Nat} {m : Nat} (I : sc_BI S st E D q m) (c : Nat) (hS : S ≤ 1215 := by omega) : D c < 2 ^ 31 := by
  have hm := sc_BI_le I
  by_cases h : D c = 0
  · omega
  · obtain ⟨j, hj, e⟩ := I.2.2.2.2.2.1 c h
    have h2 := (I.2.2.2.2.1 j hj).2
    rw [e] at h2
    omega
theorem sc_PG_new {P R : Nat} {mv sh cw tk D q D' q' : Nat → Nat} {m k m' p i : Nat} (h : sc_PG P R mv sh cw tk D q m k D' q' m' p i) (hk : k < m) (hp : p < P) (hi : i < R)
    (hc : sc_can P mv sh cw tk (q k) p i = true) (h0 : D' (sc_aft P mv sh tk (q k) p i) = 0) :
    m' < sc_S P ∧ sc_PG P R mv sh cw tk D q m k (sc_up D' (sc_aft P mv sh tk (q k) p i) (D' (q k) + 1)) (sc_up q' m' (sc_aft P mv sh tk (q k) p i)) (m' + 1) p (i + 1) := by
  obtain ⟨e, hs, _, _, _⟩ := sc_PG_qk h hk
  obtain ⟨h1, h2, h3, h4, h5, h6, h7⟩ := h
  have hE : sc_E P R mv sh cw tk (q' k) (sc_aft P mv sh tk (q k) p i) := by
    rw [e]; exact ⟨p, hp, i, hi, hc, rfl⟩
  have ht : sc_aft P mv sh tk (q k) p i < sc_S P := sc_aft_lt mv sh tk i hp hs
  obtain ⟨s1, s2, s3, s4, s5, s6⟩ := sc_BI_step h1 (show k < m' by omega) h2 hE ht h0
  rw [e] at s1 s3 s4 s6
  refine ⟨s2, s1, s3, by omega, fun j hj => (s5 j (by omega)).trans (h4 j hj), fun c hc => ?_, fun p' i' a b c => ?_, fun i' a c => ?_⟩
  · have a := h5 c hc
    rw [s4 c (by rw [a]; exact hc)]; exact a
  · have a := h6 p' i' a b c
    rw [s4 _ a]; exact a
  · by_cases z : i' = i
    · subst z; exact s6
    · have a := h7 i' (by omega) c
      rw [s4 _ a]; exact a
/-- the search is through with entry k: all that the outer loop keeps -/
theorem sc_PG_end {P R : Nat} {mv sh cw tk D q D' q' : Nat → Nat} {m k m' : Nat} (h : sc_PG P R mv sh cw tk D q m k D' q' m' P 0) (hk : k < m) (I : sc_BI (sc_S P) (sc_st P) (sc_E P R mv sh cw tk) D q m)
    (hX : sc_BX (sc_E P R mv sh cw tk) D q k) : sc_BI (sc_S P) (sc_st P) (sc_E P R mv sh cw tk) D' q' m' ∧ sc_BX (sc_E P R mv sh cw tk) D' q' (k + 1) ∧ (k + 1 < m' → sc_BH D' q' m' (k + 1)) ∧ k + 1 ≤ m' := by
  obtain ⟨h1, h2, h3, h4, h5, h6, h7⟩ := h
  refine ⟨h1, sc_BX_step hk h3 I h1 hX h4 h5 h2 ?_, sc_BH_next h1 h2, by omega⟩
  rintro e ⟨p, hp, i, hi, hc, rfl⟩
  exact h6 p i hp hi hc
/-- one round of striking, from the set G0: entries j and beyond are looked at; z: one was struck -/
def sc_EX (E : Nat → Nat → Prop) (D q : Nat → Nat) (S m : Nat) (G0 G : Nat → Bool) (z : Bool) (j : Nat) : Prop :=
  sc_Ab E D G ∧ ((z = false ∧ G = G0 ∧ ∀ x, j ≤ x → x < m → G (q x) = true → ∃ e, E (q x) e ∧ G e = true) ∨ (z = true ∧ sc_cn G S < sc_cn G0 S))
theorem sc_EX_0 {E : Nat → Nat → Prop} {D q : Nat → Nat} {S m : Nat} {G : Nat → Bool} (h : sc_Ab E D G) : sc_EX E D q S m G G false m :=
  ⟨h, Or.inl ⟨rfl, rfl, fun x a b => absurd b (by omega)⟩⟩
theorem sc_EX_keep {E : Nat → Nat → Prop} {D q : Nat → Nat} {S m : Nat} {G0 G : Nat → Bool} {z : Bool} {j : Nat} (h : sc_EX E D q S m G0 G z (j + 1)) (hw : G (q j) = true → ∃ e, E (q j) e ∧ G e = true) : sc_EX E D q S m G0 G z j := by
  obtain ⟨a, b⟩ := h
  refine ⟨a, ?_⟩
  rcases b with ⟨b1, b2, b3⟩ | b
  · refine Or.inl ⟨b1, b2, fun x hx hm => ?_⟩
    by_cases e : x = j
    · subst e; exact hw
    · exact b3 x (by omega) hm
  · exact Or.inr b
theorem sc_EX_cn {E : Nat → Nat → Prop} {D q : Nat → Nat} {S m : Nat} {G0 G : Nat → Bool} {z : Bool} {j : Nat} (h : sc_EX E D q S m G0 G z j) : sc_cn G S ≤ sc_cn G0 S := by
  rcases h.2 with ⟨_, b, _⟩ | b
  · rw [b]; exact Nat.le_refl _
  · exact Nat.le_of_lt b.2
theorem sc_EX_strike {E : Nat → Nat → Prop} {D q : Nat → Nat} {S m : Nat} {G0 G : Nat → Bool} {z : Bool} {j : Nat} (h : sc_EX E D q S m G0 G z (j + 1)) (hs : q j < S) (hg : G (q j) = true) (hw : ∀ e, E (q j) e → G e = false) : sc_EX E D q S m G0 (sc_up G (q j) false) true j := by
  refine ⟨sc_Ab_strike h.1 hw, Or.inr ⟨rfl, ?_⟩⟩
  have h1 := sc_EX_cn h
  have h2 := sc_cn_sublt (f := G) (g := sc_up G (q j) false) hg sc_up_s S hs (fun i _ hi => by
    by_cases e : i = q j
    · rw [e]; exact hg
    · rw [sc_up_n e] at hi; exact hi)
  omega
theorem sc_EX_done {S st : Nat} {E : Nat → Nat → Prop} {D q : Nat → Nat} {m : Nat} {G0 G : Nat → Bool} (F : sc_Fin S st E D q m) (h : sc_EX E D q S m G0 G false 0) : sc_Gr E D G := by
  obtain ⟨a, b⟩ := h
  rcases b with ⟨_, _, b3⟩ | b
  · refine sc_Ab_Gr a (fun c hc => ?_)
    obtain ⟨j, hj, e⟩ := F.2.2.2.1 c (a.1 c hc)
    have := b3 j (Nat.zero_le _) hj
    rw [e] at this
    exact this hc
  · exact absurd b.1 (by decide)
theorem sc_EX_more {E : Nat → Nat → Prop} {D q : Nat → Nat} {S m : Nat} {G0 G : Nat → Bool} {j : Nat} (h : sc_EX E D q S m G0 G true j) : sc_Ab E D G ∧ sc_cn G S < sc_cn G0 S := by
  obtain ⟨a, b⟩ := h
  rcases b with ⟨b, _, _⟩ | b
  · exact absurd b (by decide)
  · exact ⟨a, b.2⟩
theorem sc_Ab_none {S st : Nat} {E : Nat → Nat → Prop} {D q : Nat → Nat} {m : Nat} {G : Nat → Bool} (F : sc_Fin S st E D q m) (h : sc_Ab E D G) (h0 : sc_cn G S = 0) : sc_Gr E D G :=
  sc_Ab_Gr h (fun c hc => by
    have h1 := sc_cn_z h0 c (F.1.2.2.1 c (h.1 c hc))
    rw [h1] at hc
    exact absurd hc (by decide))
theorem sc_Fin_cn {S st : Nat} {E : Nat → Nat → Prop} {D q : Nat → Nat} {m : Nat} (F : sc_Fin S st E D q m) : sc_cn (fun c => decide (D c ≠ 0)) S = m := by
  have h := F.2.2.2.2.2 (fun _ => true)
  have h1 := sc_cn_all m
  have h2 : sc_cn (fun c => decide (D c ≠ 0) && true) S = sc_cn (fun c => decide (D c ≠ 0)) S := sc_cn_ext S (fun i _ => Bool.and_true _)
  omega
/-- the reference's round -/
theorem sc_Ab_len {E : Nat → Nat → Prop} {D : Nat → Nat} {W L : Nat → Bool} (h : sc_Ab E D W) (hL : ∀ c, L c = true ↔ W c = true ∧ ∃ e, E c e ∧ W e = true) : sc_Ab E D L :=
  ⟨fun c hc => h.1 c ((hL c).mp hc).1, fun V hV c hc => (hL c).mpr ⟨h.2 V hV c hc, by
    obtain ⟨_, e, he, hw⟩ := hV c hc
    exact ⟨e, he, h.2 V hV e hw⟩⟩⟩
