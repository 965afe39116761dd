/-! 4: how depths and truth values are written into the arrays -/
def sc_xe : Nat → Int32
  | 0 => -2
  | n + 1 => nI n
def sc_ye : Nat → Int32
  | 0 => -1
  | n + 1 => nI n
def sc_b (b : Bool) : Int32 := if b = true then 1 else 0
theorem sc_b_t {b : Bool} (h : b = true) : sc_b b = 1 := if_pos h
theorem sc_b_f {b : Bool} (h : b = false) : sc_b b = 0 := if_neg (by rw [h]; decide)
theorem sc_bt {A B : Prop} (b : B) : ((1 : Int32) = 0 → A) ∧ (¬ (1 : Int32) = 0 → B) := br_f (by decide) b
theorem sc_bf {A B : Prop} (a : A) : ((0 : Int32) = 0 → A) ∧ (¬ (0 : Int32) = 0 → B) := br_t rfl a
theorem sc_nn {n : Nat} {x : Int32} (h : n < 2 ^ 31) (hx : x < 0) : nI n ≠ x := fun e => nI_pos h (by rw [e]; exact hx)
theorem sc_xe_0 {n : Nat} (h : n < 2 ^ 31) : sc_xe n = -2 ↔ n = 0 := by
  cases n with
  | zero => exact ⟨fun _ => rfl, fun _ => rfl⟩
  | succ n => exact ⟨fun e => absurd e (sc_nn (by omega) (by decide)), fun e => absurd e (by omega)⟩
theorem sc_ye_0 {n : Nat} (h : n < 2 ^ 31) : sc_ye n < 0 ↔ n = 0 := by
  cases n with
  | zero => exact ⟨fun _ => rfl, fun _ => by decide⟩
  | succ n => exact ⟨fun e => absurd e (nI_pos (by omega)), fun e => absurd e (by omega)⟩
theorem sc_ye_eq {n d : Nat} (h : n < 2 ^ 31) (hd : d < 2 ^ 31) : sc_ye n = nI d ↔ n = d + 1 := by
  cases n with
  | zero => exact ⟨fun e => absurd e.symm (sc_nn hd (by decide)), fun e => absurd e (by omega)⟩
  | succ n =>
    show nI n = nI d ↔ _
    rw [nI_eq (by omega) hd]
    omega
theorem sc_xe_eq {n d : Nat} (h : n < 2 ^ 31) (hd : d < 2 ^ 31) : sc_xe n = nI d ↔ n = d + 1 := by
  cases n with
  | zero => exact ⟨fun e => absurd e.symm (sc_nn hd (by decide)), fun e => absurd e (by omega)⟩
  | succ n =>
    show nI n = nI d ↔ _
    rw [nI_eq (by omega) hd]
    omega
theorem sc_xe_s {n : Nat} (h : n ≠ 0) : sc_xe n = nI (n - 1) := by
  cases n with
  | zero => exact absurd rfl h
  | succ n => rfl
theorem sc_ye_s {n : Nat} (h : n ≠ 0) : sc_ye n = nI (n - 1) := by
  cases n with
  | zero => exact absurd rfl h
  | succ n => rfl
theorem sc_xe_1 {n : Nat} (h : n ≠ 0) : sc_xe n + 1 = sc_xe (n + 1) := by
  cases n with
  | zero => exact absurd rfl h
  | succ n => exact nI_1 n
/-! bounds, rules and alarms as both sides hold them -/
def sc_B (P R : Nat) (mv sh cw tk : Nat → Nat) : Prop := 1 ≤ P ∧ P ≤ 4 ∧ R ≤ 12 ∧ ∀ i, i < R → mv i < 9 ∧ sh i < 16 ∧ cw i < 12 ∧ tk i < 5
def sc_RX (R : Nat) (mv sh cw tk : Nat → Nat) (rm rs rc rt : Nat → Int32) : Prop := ∀ i, i < R → rm i = nI (mv i) ∧ rs i = nI (sh i) ∧ rc i = nI (cw i) ∧ rt i = nI (tk i)
def sc_RY (R : Nat) (mv sh cw tk : Nat → Nat) (fr to si be cr mo tt : Nat → Int32) : Prop := ∀ i, i < R → fr i = nI (mv i / 3) ∧ to i = nI (mv i % 3) ∧ si i = nI (sh i / 4) ∧ be i = nI (sh i % 4) ∧ cr i = nI (cw i / 4) ∧ mo i = nI (cw i % 4) ∧ tt i = nI (tk i)
def sc_PW (pw : Nat → Int32) : Prop := ∀ i, i < 6 → pw i = nI (3 ^ i)
def sc_AL (A : Nat) (ap al az : Nat → Nat) (pa la sa : Nat → Int32) : Prop := A ≤ 4 ∧ ∀ a, a < A → pa a = nI (ap a) ∧ ap a < 3 ∧ la a = nI (al a) ∧ al a < 5 ∧ sa a = nI (az a) ∧ az a < 4
theorem sc_upd {f : Nat → Int32} {g : Nat → Nat} {k v j : Nat} (h : j ≠ k → f j = nI (g j)) : upd f k (nI v) j = nI (sc_up g k v j) := by
  by_cases e : j = k
  · rw [e, pk_us, sc_up_s]
  · rw [pk_un e, sc_up_n e]; exact h e
def sc_sf {α : Type} (i : Nat) (f : Nat → α) (k : Nat) : Nat → α := fun j => if i ≤ j ∧ j < k then f (j + 1) else f j
theorem sc_sf_0 {α : Type} (i : Nat) (f : Nat → α) : sc_sf i f i = f := by
  funext j
  exact if_neg (by omega)
theorem sc_sf_k {α : Type} (i : Nat) (f : Nat → α) (k : Nat) : sc_sf i f k (k + 1) = f (k + 1) := if_neg (by omega)
theorem sc_sf_u {i k : Nat} (f : Nat → Int32) (h : i ≤ k) : upd (sc_sf i f k) k (f (k + 1)) = sc_sf i f (k + 1) := by
  funext j
  by_cases e : j = k
  · subst e
    rw [pk_us]
    exact (if_pos ⟨h, Nat.lt_succ_self j⟩).symm
  · rw [pk_un e]
    unfold sc_sf
    by_cases z : i ≤ j ∧ j < k
    · rw [if_pos z, if_pos ⟨z.1, by omega⟩]
    · rw [if_neg z, if_neg (by omega)]
theorem sc_sf_v {α : Type} {i k j : Nat} {f : Nat → α} {Q : α → Prop} (h0 : Q (f j)) (h1 : Q (f (j + 1))) : Q (sc_sf i f k j) := by
  unfold sc_sf
  split
  · exact h1
  · exact h0
