theorem pk_us {f : Nat → Int32} {k : Nat} {x : Int32} : upd f k x k = x := if_pos rfl
theorem pk_un {f : Nat → Int32} {k j : Nat} {x : Int32} (h : j ≠ k) : upd f k x j = f j := if_neg h
theorem pk_sub {a b : Nat} (h : b ≤ a) : nI a - nI b = nI (a - b) := by
  obtain ⟨c, rfl⟩ : ∃ c, a = c + b := ⟨a - b, by omega⟩
  rw [← nI_add, Int32.add_sub_cancel, Nat.add_sub_cancel]
theorem pk_m1 (n : Nat) : nI (n + 1) + (-1) = nI n := by
  rw [← nI_1, Int32.add_assoc, show (1 : Int32) + (-1) = 0 from rfl, Int32.add_zero]
theorem pk_mul (a b : Nat) : nI a * nI b = nI (a * b) := (Int32.ofNat_mul a b).symm
theorem pk_div {a d : Nat} (ha : a < 2 ^ 31) (h0 : 0 < d) (hd : d < 2 ^ 31) : nI a / nI d = nI (a / d) := by
  apply Int32.toInt_inj.mp
  rw [lg_idiv_nonneg (by rw [nI_toInt ha]; omega) (by rw [nI_toInt hd]; omega), nI_toInt ha, nI_toInt hd, nI_toInt (Nat.lt_of_le_of_lt (Nat.div_le_self a d) ha)]
  first | rfl | exact (Int.natCast_ediv _ _).symm
theorem pk_rem {a d : Nat} (ha : a < 2 ^ 31) (h0 : 0 < d) (hd : d < 2 ^ 31) : nI a - nI a / nI d * nI d = nI (a % d) := by
  rw [pk_div ha h0 hd, pk_mul, pk_sub (Nat.div_mul_le_self a d)]
  exact congrArg nI (by have := Nat.div_add_mod' a d; omega)
theorem pk_ix (x : Int32) {n : Nat} (hn : n < 2 ^ 31) : x < 0 ∨ nI n ≤ x ∨ ∃ j : Nat, j < n ∧ x = nI j := by
  by_cases h : x < 0
  · exact Or.inl h
  · obtain ⟨j, hj, rfl⟩ := nI_of h
    by_cases h2 : j < n
    · exact Or.inr (Or.inr ⟨j, h2, rfl⟩)
    · exact Or.inr (Or.inl (nI_le (by omega) hj))
theorem pk_le {x y : Int32} {A B : Prop} (a b : Nat) (f : a ≤ b → A) (g : b < a → B) (hx : x = nI a := by rfl) (hy : y = nI b := by rfl) (ha : a < 2 ^ 31 := by omega) (hb : b < 2 ^ 31 := by omega) : (x ≤ y → A) ∧ (¬ x ≤ y → B) := by
  subst hx hy
  rw [nI_leI ha hb]
  exact ⟨f, fun z => g (by omega)⟩
theorem pk_lt {x y : Int32} {A B : Prop} (a b : Nat) (f : a < b → A) (g : b ≤ a → B) (hx : x = nI a := by rfl) (hy : y = nI b := by rfl) (ha : a < 2 ^ 31 := by omega) (hb : b < 2 ^ 31 := by omega) : (x < y → A) ∧ (¬ x < y → B) := by
  subst hx hy
  rw [nI_ltI ha hb]
  exact ⟨f, fun z => g (by omega)⟩
theorem pk_eq {x y : Int32} {A B : Prop} (a b : Nat) (f : a = b → A) (g : a ≠ b → B) (hx : x = nI a := by rfl) (hy : y = nI b := by rfl) (ha : a < 2 ^ 31 := by omega) (hb : b < 2 ^ 31 := by omega) : (x = y → A) ∧ (¬ x = y → B) := by
  subst hx hy
  rw [nI_eq ha hb]
  exact ⟨f, g⟩
theorem pk_in {x : Int32} (n N : Nat) (h : n < N) (hx : x = nI n := by rfl) (hN : N < 2 ^ 31 := by omega) : vp_in x N := by
  subst hx
  exact vp_in_nI h hN
theorem pk_cl {x : Int32} (n : Nat) (hx : x = nI n := by rfl) (h : n < 2 ^ 31 := by omega) : x.toNatClampNeg = n := by
  subst hx
  exact nI_clamp h
theorem pt_m1 {j : Nat} (h : j < 2 ^ 31) : ¬ nI j = -1 := by
  intro e
  have h1 := congrArg Int32.toInt e
  rw [nI_toInt h, show ((-1 : Int32)).toInt = -1 from by decide] at h1
  omega
def pt_f (f : Nat → Nat) : Nat → Int32 := fun k => nI (f k)
def pt_B (f : Nat → Nat) : Prop := ∀ k, f k < 100
def pt_u (f : Nat → Nat) (k v : Nat) : Nat → Nat := fun j => if j = k then v else f j
theorem pt_us {f : Nat → Nat} {k v : Nat} : pt_u f k v k = v := if_pos rfl
theorem pt_un {f : Nat → Nat} {k v j : Nat} (h : j ≠ k) : pt_u f k v j = f j := if_neg h
theorem pt_uB {f : Nat → Nat} {k v : Nat} (h : pt_B f) (hv : v < 100) : pt_B (pt_u f k v) := by
  intro j
  unfold pt_u
  split
  · exact hv
  · exact h j
theorem pt_at (f : Nat → Nat) {i : Nat} (h : i < 2 ^ 31) : pt_f f (nI i).toNatClampNeg = nI (f i) := by
  rw [nI_clamp h]; rfl
theorem pt_at2 (l f : Nat → Nat) {i : Nat} (h : i < 2 ^ 31) (h2 : f i < 2 ^ 31) : pt_f l (pt_f f (nI i).toNatClampNeg).toNatClampNeg = nI (l (f i)) := by
  rw [pt_at f h, pt_at l h2]
theorem pt_up (f : Nat → Nat) {i : Nat} (v : Nat) (h : i < 2 ^ 31) : upd (pt_f f) (nI i).toNatClampNeg (nI v) = pt_f (pt_u f i v) := by
  rw [nI_clamp h]
  funext j
  unfold upd pt_f pt_u
  split <;> rfl
def pt_o : Option Nat → Int32
  | none => -1
  | some j => nI j
theorem pt_oI {x y : Option Nat} (hx : ∀ j, x = some j → j < 2 ^ 31) (hy : ∀ j, y = some j → j < 2 ^ 31) (h : pt_o x = pt_o y) : x = y := by
  cases x with
  | none =>
    cases y with
    | none => rfl
    | some b => exact absurd h.symm (pt_m1 (hy b rfl))
  | some a =>
    cases y with
    | none => exact absurd h (pt_m1 (hx a rfl))
    | some b => rw [(nI_eq (hx a rfl) (hy b rfl)).mp h]
def pt_s (p : Nat → Bool) : Nat → Nat → Option Nat
  | 0, _ => none
  | d + 1, i => if p i = true then some i else pt_s p d (i + 1)
theorem pt_st {p : Nat → Bool} {d i : Nat} (h : p i = true) : pt_s p (d + 1) i = some i := if_pos h
theorem pt_sf {p : Nat → Bool} {d i : Nat} (h : p i = false) : pt_s p (d + 1) i = pt_s p d (i + 1) := if_neg (by rw [h]; decide)
theorem pt_s_some {p : Nat → Bool} : ∀ d i j, pt_s p d i = some j → i ≤ j ∧ j < i + d ∧ p j = true := by
  intro d
  induction d with
  | zero => intro i j h; exact absurd h (by simp [pt_s])
  | succ d ih =>
    intro i j h
    cases hp : p i with
    | true => rw [pt_st hp] at h; cases h; exact ⟨by omega, by omega, hp⟩
    | false =>
      rw [pt_sf hp] at h
      have := ih (i + 1) j h
      exact ⟨by omega, by omega, this.2.2⟩
theorem pt_s_ex {p : Nat → Bool} : ∀ d i j, i ≤ j → j < i + d → p j = true → ∃ r, pt_s p d i = some r := by
  intro d
  induction d with
  | zero => intro i j h1 h2; omega
  | succ d ih =>
    intro i j h1 h2 h3
    cases hp : p i with
    | true => exact ⟨i, pt_st hp⟩
    | false =>
      rw [pt_sf hp]
      have : i ≠ j := by intro e; rw [e, h3] at hp; exact absurd hp (by decide)
      exact ih (i + 1) j (by omega) (by omega) h3
theorem pt_s_cg {p q : Nat → Bool} : ∀ d i, (∀ j, i ≤ j → j < i + d → p j = q j) → pt_s p d i = pt_s q d i := by
  intro d
  induction d with
  | zero => intro i _; rfl
  | succ d ih =>
    intro i h
    have e := h i (Nat.le_refl _) (by omega)
    have r := ih (i + 1) (fun j h1 h2 => h j (by omega) (by omega))
    cases hp : p i with
    | true => rw [pt_st hp, pt_st (e ▸ hp)]
    | false => rw [pt_sf hp, pt_sf (e ▸ hp), r]
def pt_c (p : Nat → Bool) : Nat → Nat
  | 0 => 0
  | n + 1 => pt_c p n + (if p n = true then 1 else 0)
theorem pt_ct {p : Nat → Bool} {n : Nat} (h : p n = true) : pt_c p (n + 1) = pt_c p n + 1 := by
  show _ + (if p n = true then 1 else 0) = _
  rw [if_pos h]
theorem pt_cf {p : Nat → Bool} {n : Nat} (h : p n = false) : pt_c p (n + 1) = pt_c p n := by
  show _ + (if p n = true then 1 else 0) = _
  rw [if_neg (by rw [h]; decide), Nat.add_zero]
theorem pt_c_s (p : Nat → Bool) (n : Nat) : pt_c p n ≤ pt_c p (n + 1) ∧ pt_c p (n + 1) ≤ pt_c p n + 1 := by
  cases hp : p n with
  | true => rw [pt_ct hp]; omega
  | false => rw [pt_cf hp]; omega
theorem pt_c_le (p : Nat → Bool) (n : Nat) : pt_c p n ≤ n := by
  induction n with
  | zero => exact Nat.le_refl _
  | succ n ih => have := pt_c_s p n; omega
theorem pt_c_mono (p : Nat → Bool) (a d : Nat) : pt_c p a ≤ pt_c p (a + d) := by
  induction d with
  | zero => exact Nat.le_refl _
  | succ d ih => have := pt_c_s p (a + d); rw [← Nat.add_assoc]; omega
theorem pt_c_lt {p : Nat → Bool} {a b : Nat} (h : a < b) (ha : p a = true) : pt_c p a < pt_c p b := by
  have h1 := pt_ct ha
  have h2 := pt_c_mono p (a + 1) (b - (a + 1))
  rw [show a + 1 + (b - (a + 1)) = b from by omega] at h2
  omega
theorem pt_c_sub {p q : Nat → Bool} (n : Nat) (h : ∀ i, i < n → p i = true → q i = true) : pt_c p n ≤ pt_c q n := by
  induction n with
  | zero => exact Nat.le_refl _
  | succ n ih =>
    have h1 := ih (fun i hi => h i (by omega))
    cases hp : p n with
    | true => rw [pt_ct hp, pt_ct (h n (by omega) hp)]; omega
    | false => rw [pt_cf hp]; have := pt_c_s q n; omega
theorem pt_c_sublt {p q : Nat → Bool} (n j : Nat) (h : ∀ i, i < n → p i = true → q i = true) (hj : j < n) (hq : q j = true) (hp : p j = false) : pt_c p n < pt_c q n := by
  induction n with
  | zero => omega
  | succ n ih =>
    by_cases e : j = n
    · subst e
      rw [pt_ct hq, pt_cf hp]
      have := pt_c_sub (p := p) (q := q) j (fun i hi => h i (by omega))
      omega
    · have h1 := ih (fun i hi => h i (by omega)) (by omega)
      cases hp : p n with
      | true => rw [pt_ct hp, pt_ct (h n (by omega) hp)]; omega
      | false => rw [pt_cf hp]; have := pt_c_s q n; omega
theorem pt_c_ex {p : Nat → Bool} : ∀ n k, k < pt_c p n → ∃ s, s < n ∧ p s = true ∧ pt_c p s = k := by
  intro n
  induction n with
  | zero => intro k h; exact absurd h (Nat.not_lt_zero _)
  | succ n ih =>
    intro k h
    by_cases h1 : k < pt_c p n
    · obtain ⟨s, a, b, c⟩ := ih k h1
      exact ⟨s, by omega, b, c⟩
    · cases hp : p n with
      | true => rw [pt_ct hp] at h; exact ⟨n, by omega, hp, by omega⟩
      | false => rw [pt_cf hp] at h; exact absurd h h1
