/-! 2: breadth first search and the greatest set of states that walk on -/
def sc_BI (S st : Nat) (E : Nat → Nat → Prop) (D q : Nat → Nat) (m : Nat) : Prop :=
  D st = 1 ∧ (∀ c, D c = 1 → c = st) ∧ (∀ c, D c ≠ 0 → c < S) ∧ (∀ c n, D c = n + 2 → ∃ b, D b = n + 1 ∧ E b c) ∧
  (∀ j, j < m → D (q j) ≠ 0 ∧ D (q j) ≤ j + 1) ∧ (∀ c, D c ≠ 0 → ∃ j, j < m ∧ q j = c) ∧
  (∀ i j, i ≤ j → j < m → D (q i) ≤ D (q j)) ∧
  (∀ Q : Nat → Bool, sc_cn (fun j => Q (q j)) m = sc_cn (fun c => decide (D c ≠ 0) && Q c) S)
def sc_BH (D q : Nat → Nat) (m k : Nat) : Prop := ∀ j, j < m → D (q j) ≤ D (q k) + 1
def sc_BX (E : Nat → Nat → Prop) (D q : Nat → Nat) (k : Nat) : Prop := ∀ j, j < k → ∀ e, E (q j) e → D e ≠ 0 ∧ D e ≤ D (q j) + 1
def sc_Loc (S st : Nat) (E : Nat → Nat → Prop) (D : Nat → Nat) : Prop :=
  D st = 1 ∧ (∀ c, D c = 1 → c = st) ∧ (∀ c, D c ≠ 0 → c < S) ∧ (∀ c n, D c = n + 2 → ∃ b, D b = n + 1 ∧ E b c) ∧
  (∀ b c, D b ≠ 0 → E b c → D c ≠ 0 ∧ D c ≤ D b + 1)
theorem sc_cn_none : ∀ n, sc_cn (fun _ => false) n = 0
  | 0 => rfl
  | n + 1 => by
    show sc_cn (fun _ => false) n + 0 = 0
    rw [sc_cn_none n]
theorem sc_BI_le {S st : Nat} {E : Nat → Nat → Prop} {D q : Nat → Nat} {m : Nat} (I : sc_BI S st E D q m) : m ≤ S := by
  obtain ⟨i1, i2, i3, i4, i5, i6, i7, i8⟩ := I
  have h := i8 (fun _ => true)
  have h1 := sc_cn_all m
  have h2 := sc_cn_le (fun c => decide (D c ≠ 0) && true) S
  omega
theorem sc_BI_step {S st : Nat} {E : Nat → Nat → Prop} {D q : Nat → Nat} {m k e : Nat} (I : sc_BI S st E D q m) (hk : k < m) (hb : sc_BH D q m k) (hE : E (q k) e) (he : e < S) (h0 : D e = 0) :
    sc_BI S st E (sc_up D e (D (q k) + 1)) (sc_up q m e) (m + 1) ∧ m < S ∧ sc_BH (sc_up D e (D (q k) + 1)) (sc_up q m e) (m + 1) k ∧
    (∀ c, D c ≠ 0 → sc_up D e (D (q k) + 1) c = D c) ∧ (∀ j, j < m → sc_up q m e j = q j) ∧ sc_up D e (D (q k) + 1) e ≠ 0 := by
  obtain ⟨i1, i2, i3, i4, i5, i6, i7, i8⟩ := I
  have kn : D (q k) ≠ 0 := (i5 k hk).1
  have kp : ∀ c, D c ≠ 0 → sc_up D e (D (q k) + 1) c = D c := fun c hc => sc_up_n (fun h => hc (by rw [h]; exact h0))
  have se : sc_up D e (D (q k) + 1) e = D (q k) + 1 := sc_up_s
  have qo : ∀ j, j < m → sc_up q m e j = q j := fun j hj => sc_up_n (by omega)
  have qm : sc_up q m e m = e := sc_up_s
  have dq : ∀ j, j < m → sc_up D e (D (q k) + 1) (sc_up q m e j) = D (q j) := fun j hj => by
    rw [qo j hj]; exact kp _ (i5 j hj).1
  have dm : sc_up D e (D (q k) + 1) (sc_up q m e m) = D (q k) + 1 := by rw [qm]; exact se
  have bk : ∀ c, c ≠ e → sc_up D e (D (q k) + 1) c = D c := fun c hc => sc_up_n hc
  generalize sc_up D e (D (q k) + 1) = D' at *
  generalize sc_up q m e = q' at *
  refine ⟨⟨?_, ?_, ?_, ?_, ?_, ?_, ?_, ?_⟩, ?_, ?_, kp, qo, ?_⟩
  · rw [kp st (by omega)]; exact i1
  · intro c hc
    by_cases h : c = e
    · rw [h, se] at hc; omega
    · rw [bk c h] at hc; exact i2 c hc
  · intro c hc
    by_cases h : c = e
    · rw [h]; exact he
    · rw [bk c h] at hc; exact i3 c hc
  · intro c n hc
    by_cases h : c = e
    · rw [h, se] at hc
      refine ⟨q k, ?_, by rw [h]; exact hE⟩
      rw [kp _ kn]; omega
    · rw [bk c h] at hc
      obtain ⟨b, hb1, hb2⟩ := i4 c n hc
      exact ⟨b, by rw [kp b (by omega)]; exact hb1, hb2⟩
  · intro j hj
    by_cases h : j = m
    · rw [h, dm]
      have := (i5 k hk).2
      exact ⟨by omega, by omega⟩
    · rw [dq j (by omega)]; exact i5 j (by omega)
  · intro c hc
    by_cases h : c = e
    · exact ⟨m, by omega, by rw [qm, h]⟩
    · rw [bk c h] at hc
      obtain ⟨j, hj, e2⟩ := i6 c hc
      exact ⟨j, by omega, by rw [qo j hj]; exact e2⟩
  · intro i j hij hj
    by_cases h : j = m
    · by_cases h2 : i = m
      · rw [h, h2]; exact Nat.le_refl _
      · rw [h, dm, dq i (by omega)]; exact hb i (by omega)
    · rw [dq i (by omega), dq j (by omega)]; exact i7 i j hij (by omega)
  · intro Q
    have a1 : sc_cn (fun j => Q (q' j)) (m + 1) = sc_cn (fun j => Q (q j)) m + (if Q e = true then 1 else 0) := by
      show sc_cn (fun j => Q (q' j)) m + (if Q (q' m) = true then 1 else 0) = _
      rw [qm, sc_cn_ext (f := fun j => Q (q' j)) (g := fun j => Q (q j)) m (fun i hi => by show Q (q' i) = Q (q i); rw [qo i hi])]
    have a2 : sc_cn (fun c => decide (D' c ≠ 0) && Q c) S = sc_cn (fun c => decide (D c ≠ 0) && Q c) S + (if Q e = true then 1 else 0) :=
      sc_cn_pt (k := e) (Q e) (by simp [h0]) (by simp [se]) (fun i hi => by show (decide (D' i ≠ 0) && Q i) = (decide (D i ≠ 0) && Q i); rw [bk i hi]) S he
    rw [a1, a2, i8 Q]
  · have h := i8 (fun _ => true)
    have h1 := sc_cn_all m
    have h2 := sc_cn_lt (f := fun c => decide (D c ≠ 0) && true) S he (by simp [h0])
    omega
  · intro j hj
    by_cases h : j = m
    · rw [h, dm, dq k hk]; exact Nat.le_refl _
    · rw [dq j (by omega), dq k hk]; exact hb j (by omega)
  · rw [se]; omega
theorem sc_BI_0 {S st : Nat} {E : Nat → Nat → Prop} (hs : st < S) (q : Nat → Nat) (hq : q 0 = st) : sc_BI S st E (sc_up (fun _ => 0) st 1) q 1 := by
  have h1 : sc_up (fun _ => 0) st 1 st = 1 := sc_up_s
  have h2 : ∀ c, c ≠ st → sc_up (fun _ => 0) st 1 c = 0 := fun c hc => sc_up_n hc
  generalize sc_up (fun _ => 0) st 1 = D at *
  have h3 : ∀ c, D c ≠ 0 → c = st := fun c hc => by
    by_cases h : c = st
    · exact h
    · exact absurd (h2 c h) hc
  refine ⟨h1, fun c hc => h3 c (by omega), fun c hc => by rw [h3 c hc]; exact hs, fun c n hc => ?_, fun j hj => ?_, fun c hc => ⟨0, by omega, by rw [hq, h3 c hc]⟩, fun i j hij hj => ?_, fun Q => ?_⟩
  · have := h3 c (by omega)
    rw [this, h1] at hc
    omega
  · have e : j = 0 := by omega
    rw [e, hq, h1]
    exact ⟨by omega, by omega⟩
  · have e : j = 0 := by omega
    have e2 : i = 0 := by omega
    rw [e, e2]; exact Nat.le_refl _
  · have a2 : sc_cn (fun c => decide (D c ≠ 0) && Q c) S = sc_cn (fun _ => false) S + (if Q st = true then 1 else 0) :=
      sc_cn_pt (k := st) (Q st) rfl (by simp [h1]) (fun i hi => by simp [h2 i hi]) S hs
    have a3 := sc_cn_none S
    show 0 + (if Q (q 0) = true then 1 else 0) = _
    rw [a2, hq]; omega
/-- the search is through with entry k -/
theorem sc_BX_step {S st : Nat} {E : Nat → Nat → Prop} {D q D' q' : Nat → Nat} {m m' k : Nat} (hk : k < m) (hm : m ≤ m') (I : sc_BI S st E D q m) (I' : sc_BI S st E D' q' m') (hX : sc_BX E D q k)
    (hq : ∀ j, j < m → q' j = q j) (hD : ∀ c, D c ≠ 0 → D' c = D c) (hb : sc_BH D' q' m' k) (hn : ∀ e, E (q k) e → D' e ≠ 0) : sc_BX E D' q' (k + 1) := by
  intro j hj e he
  obtain ⟨i1, i2, i3, i4, i5, i6, i7, i8⟩ := I
  obtain ⟨j1, j2, j3, j4, j5, j6, j7, j8⟩ := I'
  rw [hq j (by omega)] at he ⊢
  by_cases h : j = k
  · subst h
    have h1 := hn e he
    refine ⟨h1, ?_⟩
    obtain ⟨x, hx, ex⟩ := j6 e h1
    have h2 := hb x hx
    rw [ex, hq j hk] at h2
    exact h2
  · have h1 := hX j (by omega) e he
    rw [hD e h1.1, hD (q j) (i5 j (by omega)).1]
    exact h1
theorem sc_BH_next {S st : Nat} {E : Nat → Nat → Prop} {D q : Nat → Nat} {m k : Nat} (I : sc_BI S st E D q m) (hb : sc_BH D q m k) (hk : k + 1 < m) : sc_BH D q m (k + 1) := by
  intro j hj
  have h1 := hb j hj
  have h2 := I.2.2.2.2.2.2.1 k (k + 1) (by omega) hk
  omega
theorem sc_BI_end {S st : Nat} {E : Nat → Nat → Prop} {D q : Nat → Nat} {m k : Nat} (I : sc_BI S st E D q m) (hX : sc_BX E D q k) (hk : m ≤ k) : sc_Loc S st E D ∧ ∀ c, D c ≤ S := by
  have hm := sc_BI_le I
  obtain ⟨i1, i2, i3, i4, i5, i6, i7, i8⟩ := I
  refine ⟨⟨i1, i2, i3, i4, fun b c hb he => ?_⟩, fun c => ?_⟩
  · obtain ⟨j, hj, e⟩ := i6 b hb
    have h := hX j (by omega) c (by rw [e]; exact he)
    rw [e] at h
    exact h
  · by_cases h : D c = 0
    · omega
    · obtain ⟨j, hj, e⟩ := i6 c h
      have h2 := (i5 j hj).2
      rw [e] at h2
      omega
/-- what the search leaves -/
def sc_Fin (S st : Nat) (E : Nat → Nat → Prop) (D q : Nat → Nat) (m : Nat) : Prop :=
  sc_Loc S st E D ∧ (∀ c, D c ≤ S) ∧ (∀ j, j < m → D (q j) ≠ 0) ∧ (∀ c, D c ≠ 0 → ∃ j, j < m ∧ q j = c) ∧ m ≤ S ∧
  (∀ Q : Nat → Bool, sc_cn (fun j => Q (q j)) m = sc_cn (fun c => decide (D c ≠ 0) && Q c) S)
theorem sc_Fin_of {S st : Nat} {E : Nat → Nat → Prop} {D q : Nat → Nat} {m k : Nat} (I : sc_BI S st E D q m) (hX : sc_BX E D q k) (hk : m ≤ k) : sc_Fin S st E D q m :=
  ⟨(sc_BI_end I hX hk).1, (sc_BI_end I hX hk).2, fun j hj => (I.2.2.2.2.1 j hj).1, I.2.2.2.2.2.1, sc_BI_le I, I.2.2.2.2.2.2.2⟩
/-- a set of reached states, each of which leads to one of them -/
def sc_Clo (E : Nat → Nat → Prop) (D : Nat → Nat) (W : Nat → Bool) : Prop := ∀ c, W c = true → D c ≠ 0 ∧ ∃ e, E c e ∧ W e = true
def sc_Gr (E : Nat → Nat → Prop) (D : Nat → Nat) (G : Nat → Bool) : Prop := sc_Clo E D G ∧ ∀ W, sc_Clo E D W → ∀ c, W c = true → G c = true
def sc_Ab (E : Nat → Nat → Prop) (D : Nat → Nat) (G : Nat → Bool) : Prop := (∀ c, G c = true → D c ≠ 0) ∧ ∀ W, sc_Clo E D W → ∀ c, W c = true → G c = true
theorem sc_Ab_0 (E : Nat → Nat → Prop) (D : Nat → Nat) : sc_Ab E D (fun c => decide (D c ≠ 0)) :=
  ⟨fun c h => of_decide_eq_true h, fun W hW c hc => decide_eq_true (hW c hc).1⟩
theorem sc_Ab_strike {E : Nat → Nat → Prop} {D : Nat → Nat} {G : Nat → Bool} (h : sc_Ab E D G) {b : Nat} (hb : ∀ e, E b e → G e = false) : sc_Ab E D (sc_up G b false) := by
  have h1 : sc_up G b false b = false := sc_up_s
  have h2 : ∀ c, c ≠ b → sc_up G b false c = G c := fun c hc => sc_up_n hc
  generalize sc_up G b false = G' at *
  refine ⟨fun c hc => ?_, fun W hW c hc => ?_⟩
  · by_cases e : c = b
    · rw [e, h1] at hc; exact absurd hc (by decide)
    · rw [h2 c e] at hc; exact h.1 c hc
  · by_cases e : c = b
    · subst e
      obtain ⟨_, x, hx, hw⟩ := hW c hc
      have := h.2 W hW x hw
      rw [hb x hx] at this
      exact absurd this (by decide)
    · rw [h2 c e]; exact h.2 W hW c hc
theorem sc_Ab_Gr {E : Nat → Nat → Prop} {D : Nat → Nat} {G : Nat → Bool} (h : sc_Ab E D G) (hc : ∀ c, G c = true → ∃ e, E c e ∧ G e = true) : sc_Gr E D G :=
  ⟨fun c hg => ⟨h.1 c hg, hc c hg⟩, h.2⟩
theorem sc_Gr_un {E : Nat → Nat → Prop} {D : Nat → Nat} {G H : Nat → Bool} (hG : sc_Gr E D G) (hH : sc_Gr E D H) (c : Nat) : G c = H c := by
  cases e : G c with
  | true => exact (hH.2 G hG.1 c e).symm
  | false =>
    cases e2 : H c with
    | false => rfl
    | true => exact absurd ((hG.2 H hH.1 c e2).symm.trans e) (by decide)
/-! the reference's search by rounds, against depths D that are known to be right -/
def sc_YI (D : Nat → Nat) (d : Nat) (T : Nat → Nat) : Prop := ∀ c, (D c ≤ d + 1 → T c = D c) ∧ (D c = d + 2 → T c = 0 ∨ T c = D c) ∧ (d + 2 < D c → T c = 0)
def sc_YS (D : Nat → Nat) (d : Nat) (T : Nat → Nat) : Prop := ∀ c, (D c ≤ d + 1 → T c = D c) ∧ (d + 1 < D c → T c = 0)
theorem sc_YS_I {D : Nat → Nat} {d : Nat} {T : Nat → Nat} (h : sc_YS D d T) : sc_YI D d T := fun c =>
  ⟨(h c).1, fun e => Or.inl ((h c).2 (by omega)), fun e => (h c).2 (by omega)⟩
theorem sc_YS_0 {S st : Nat} {E : Nat → Nat → Prop} {D : Nat → Nat} (L : sc_Loc S st E D) : sc_YS D 0 (sc_up (fun _ => 0) st 1) := by
  have h1 : sc_up (fun _ => 0) st 1 st = 1 := sc_up_s
  have h2 : ∀ c, c ≠ st → sc_up (fun _ => 0) st 1 c = 0 := fun c hc => sc_up_n hc
  generalize sc_up (fun _ => 0) st 1 = T at *
  intro c
  by_cases e : c = st
  · rw [e, h1, L.1]; exact ⟨fun _ => rfl, fun h => by omega⟩
  · rw [h2 c e]
    refine ⟨fun h => ?_, fun _ => rfl⟩
    by_cases e1 : D c = 1
    · exact absurd (L.2.1 c e1) e
    · omega
theorem sc_YI_eq {D : Nat → Nat} {d : Nat} {T : Nat → Nat} (h : sc_YI D d T) {c : Nat} (e : T c = d + 1) : D c = d + 1 := by
  obtain ⟨h1, h2, h3⟩ := h c
  by_cases a : D c ≤ d + 1
  · have := h1 a; omega
  · by_cases b : D c = d + 2
    · rcases h2 b with x | x <;> omega
    · have := h3 (by omega); omega
theorem sc_YI_set {S st : Nat} {E : Nat → Nat → Prop} {D : Nat → Nat} (L : sc_Loc S st E D) {d : Nat} {T : Nat → Nat} (h : sc_YI D d T) {c t : Nat} (hc : T c = d + 1) (hE : E c t) (ht : T t = 0) : sc_YI D d (sc_up T t (d + 2)) := by
  have e := sc_YI_eq h hc
  have h4 := L.2.2.2.2 c t (by omega) hE
  have h5 : D t = d + 2 := by
    by_cases a : D t ≤ d + 1
    · have := (h t).1 a; omega
    · omega
  have s1 : sc_up T t (d + 2) t = d + 2 := sc_up_s
  have s2 : ∀ x, x ≠ t → sc_up T t (d + 2) x = T x := fun x hx => sc_up_n hx
  generalize sc_up T t (d + 2) = T' at *
  intro x
  by_cases z : x = t
  · rw [z, s1, h5]; exact ⟨fun _ => rfl, fun _ => Or.inr rfl, fun q => by omega⟩
  · rw [s2 x z]; exact h x
theorem sc_YI_end {S st : Nat} {E : Nat → Nat → Prop} {D : Nat → Nat} (L : sc_Loc S st E D) {d : Nat} {T : Nat → Nat} (h : sc_YI D d T) (hx : ∀ b, b < S → D b = d + 1 → ∀ e, E b e → T e ≠ 0) : sc_YS D (d + 1) T := by
  intro c
  obtain ⟨h1, h2, h3⟩ := h c
  refine ⟨fun a => ?_, fun a => h3 (by omega)⟩
  by_cases b : D c = d + 2
  · obtain ⟨y, hy, hE⟩ := L.2.2.2.1 c d b
    have h5 := hx y (L.2.2.1 y (by omega)) hy c hE
    rcases h2 b with x | x
    · exact absurd x h5
    · exact x
  · exact h1 (by omega)
theorem sc_down {S st : Nat} {E : Nat → Nat → Prop} {D : Nat → Nat} (L : sc_Loc S st E D) : ∀ k n c, D c = n + 1 + k → ∃ b, D b = n + 1
  | 0, n, c, h => ⟨c, h⟩
  | k + 1, n, c, h => by
    obtain ⟨b, hb, _⟩ := L.2.2.2.1 c (n + k) (by omega)
    exact sc_down L k n b (by omega)
theorem sc_YS_done {S st : Nat} {E : Nat → Nat → Prop} {D : Nat → Nat} (L : sc_Loc S st E D) {d : Nat} {T : Nat → Nat} (h : sc_YS D (d + 1) T) (hm : ∀ c, T c ≤ d + 1) (c : Nat) : T c = D c := by
  by_cases a : D c ≤ d + 2
  · exact (h c).1 a
  · obtain ⟨b, hb⟩ := sc_down L (D c - (d + 2)) (d + 1) c (by omega)
    have h1 := (h b).1 (by omega)
    have h2 := hm b
    omega
theorem sc_YS_top {D : Nat → Nat} {S : Nat} {T : Nat → Nat} (h : sc_YS D S T) (hm : ∀ c, D c ≤ S) (c : Nat) : T c = D c := (h c).1 (by have := hm c; omega)
/-! the first bad state -/
def sc_FB (D : Nat → Nat) (B : Nat → Bool) (n f : Nat) : Prop := f < n ∧ D f ≠ 0 ∧ B f = true ∧ ∀ b, b < n → D b ≠ 0 → B b = true → D f < D b ∨ (D f = D b ∧ f ≤ b)
def sc_NB (D : Nat → Nat) (B : Nat → Bool) (n : Nat) : Prop := ∀ b, b < n → D b ≠ 0 → B b = false
def sc_LV (D : Nat → Nat) (B : Nat → Bool) (n d : Nat) : Prop := (∃ f, f < n ∧ D f = d + 1 ∧ B f = true) ∧ ∀ b, b < n → D b ≠ 0 → B b = true → d + 1 ≤ D b
theorem sc_FB_LV {D : Nat → Nat} {B : Nat → Bool} {n f d : Nat} (h : sc_FB D B n f) (hv : sc_LV D B n d) : D f = d + 1 := by
  obtain ⟨h1, h2, h3, h4⟩ := h
  obtain ⟨⟨g, g1, g2, g3⟩, g4⟩ := hv
  have a := g4 f h1 h2 h3
  rcases h4 g g1 (by omega) g3 with x | x <;> omega
theorem sc_FB_NB {D : Nat → Nat} {B : Nat → Bool} {n f : Nat} (h : sc_FB D B n f) (hv : sc_NB D B n) : False := by
  have := hv f h.1 h.2.1
  rw [h.2.2.1] at this
  exact absurd this (by decide)
theorem sc_LV_NB {D : Nat → Nat} {B : Nat → Bool} {n d : Nat} (h : sc_LV D B n d) (hv : sc_NB D B n) : False := by
  obtain ⟨⟨g, g1, g2, g3⟩, _⟩ := h
  have := hv g g1 (by omega)
  rw [g3] at this
  exact absurd this (by decide)
theorem sc_FB_least {D : Nat → Nat} {B : Nat → Bool} {n f d c : Nat} (h : sc_FB D B n f) (hd : D f = d + 1) (h1 : c < n) (h2 : D c = d + 1) (h3 : B c = true) (h4 : ∀ b, b < c → ¬ (D b = d + 1 ∧ B b = true)) : c = f := by
  obtain ⟨f1, f2, f3, f4⟩ := h
  have a : ¬ f < c := fun x => h4 f x ⟨hd, f3⟩
  rcases f4 c h1 (by omega) h3 with x | x <;> omega
