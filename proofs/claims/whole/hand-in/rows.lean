section
theorem pk_us {f : Nat → Int32} {k : Nat} {x : Int32} : upd f k x k = x := if_pos rfl
theorem pk_un {f : Nat → Int32} {k j : Nat} {x : Int32} (h : j ≠ k) : upd f k x j = f j := if_neg h
theorem pk_sub {a b : Nat} (h : b ≤ a) : nI a - nI b = nI (a - b) := by
  obtain ⟨c, rfl⟩ : ∃ c, a = c + b := ⟨a - b, by omega⟩
  rw [← nI_add, Int32.add_sub_cancel, Nat.add_sub_cancel]
theorem pk_m1 (n : Nat) : nI (n + 1) + (-1) = nI n := by
  rw [← nI_1, Int32.add_assoc, show (1 : Int32) + (-1) = 0 from rfl, Int32.add_zero]
theorem pk_mul (a b : Nat) : nI a * nI b = nI (a * b) := (Int32.ofNat_mul a b).symm
theorem pk_div {a d : Nat} (ha : a < 2 ^ 31) (h0 : 0 < d) (hd : d < 2 ^ 31) : nI a / nI d = nI (a / d) := by
  apply Int32.toInt_inj.mp
  rw [lg_idiv_nonneg (by rw [nI_toInt ha]; omega) (by rw [nI_toInt hd]; omega), nI_toInt ha, nI_toInt hd, nI_toInt (Nat.lt_of_le_of_lt (Nat.div_le_self a d) ha)]
  first | rfl | exact (Int.natCast_ediv _ _).symm
theorem pk_rem {a d : Nat} (ha : a < 2 ^ 31) (h0 : 0 < d) (hd : d < 2 ^ 31) : nI a - nI a / nI d * nI d = nI (a % d) := by
  rw [pk_div ha h0 hd, pk_mul, pk_sub (Nat.div_mul_le_self a d)]
  exact congrArg nI (by have := Nat.div_add_mod' a d; omega)
theorem pk_ix (x : Int32) {n : Nat} (hn : n < 2 ^ 31) : x < 0 ∨ nI n ≤ x ∨ ∃ j : Nat, j < n ∧ x = nI j := by
  by_cases h : x < 0
  · exact Or.inl h
  · obtain ⟨j, hj, rfl⟩ := nI_of h
    by_cases h2 : j < n
    · exact Or.inr (Or.inr ⟨j, h2, rfl⟩)
    · exact Or.inr (Or.inl (nI_le (by omega) hj))
theorem pk_le {x y : Int32} {A B : Prop} (a b : Nat) (f : a ≤ b → A) (g : b < a → B) (hx : x = nI a := by rfl) (hy : y = nI b := by rfl) (ha : a < 2 ^ 31 := by omega) (hb : b < 2 ^ 31 := by omega) : (x ≤ y → A) ∧ (¬ x ≤ y → B) := by
  subst hx hy
  rw [nI_leI ha hb]
  exact ⟨f, fun z => g (by omega)⟩
theorem pk_lt {x y : Int32} {A B : Prop} (a b : Nat) (f : a < b → A) (g : b ≤ a → B) (hx : x = nI a := by rfl) (hy : y = nI b := by rfl) (ha : a < 2 ^ 31 := by omega) (hb : b < 2 ^ 31 := by omega) : (x < y → A) ∧ (¬ x < y → B) := by
  subst hx hy
  rw [nI_ltI ha hb]
  exact ⟨f, fun z => g (by omega)⟩
theorem pk_eq {x y : Int32} {A B : Prop} (a b : Nat) (f : a = b → A) (g : a ≠ b → B) (hx : x = nI a := by rfl) (hy : y = nI b := by rfl) (ha : a < 2 ^ 31 := by omega) (hb : b < 2 ^ 31 := by omega) : (x = y → A) ∧ (¬ x = y → B) := by
  subst hx hy
  rw [nI_eq ha hb]
  exact ⟨f, g⟩
theorem pk_in {x : Int32} (n N : Nat) (h : n < N) (hx : x = nI n := by rfl) (hN : N < 2 ^ 31 := by omega) : vp_in x N := by
  subst hx
  exact vp_in_nI h hN
theorem pk_cl {x : Int32} (n : Nat) (hx : x = nI n := by rfl) (h : n < 2 ^ 31 := by omega) : x.toNatClampNeg = n := by
  subst hx
  exact nI_clamp h
theorem pt_m1 {j : Nat} (h : j < 2 ^ 31) : ¬ nI j = -1 := by
  intro e
  have h1 := congrArg Int32.toInt e
  rw [nI_toInt h, show ((-1 : Int32)).toInt = -1 from by decide] at h1
  omega
def pt_f (f : Nat → Nat) : Nat → Int32 := fun k => nI (f k)
def pt_B (f : Nat → Nat) : Prop := ∀ k, f k < 100
def pt_u (f : Nat → Nat) (k v : Nat) : Nat → Nat := fun j => if j = k then v else f j
theorem pt_us {f : Nat → Nat} {k v : Nat} : pt_u f k v k = v := if_pos rfl
theorem pt_un {f : Nat → Nat} {k v j : Nat} (h : j ≠ k) : pt_u f k v j = f j := if_neg h
theorem pt_uB {f : Nat → Nat} {k v : Nat} (h : pt_B f) (hv : v < 100) : pt_B (pt_u f k v) := by
  intro j
  unfold pt_u
  split
  · exact hv
  · exact h j
theorem pt_at (f : Nat → Nat) {i : Nat} (h : i < 2 ^ 31) : pt_f f (nI i).toNatClampNeg = nI (f i) := by
  rw [nI_clamp h]; rfl
theorem pt_at2 (l f : Nat → Nat) {i : Nat} (h : i < 2 ^ 31) (h2 : f i < 2 ^ 31) : pt_f l (pt_f f (nI i).toNatClampNeg).toNatClampNeg = nI (l (f i)) := by
  rw [pt_at f h, pt_at l h2]
theorem pt_up (f : Nat → Nat) {i : Nat} (v : Nat) (h : i < 2 ^ 31) : upd (pt_f f) (nI i).toNatClampNeg (nI v) = pt_f (pt_u f i v) := by
  rw [nI_clamp h]
  funext j
  unfold upd pt_f pt_u
  split <;> rfl
def pt_o : Option Nat → Int32
  | none => -1
  | some j => nI j
theorem pt_oI {x y : Option Nat} (hx : ∀ j, x = some j → j < 2 ^ 31) (hy : ∀ j, y = some j → j < 2 ^ 31) (h : pt_o x = pt_o y) : x = y := by
  cases x with
  | none =>
    cases y with
    | none => rfl
    | some b => exact absurd h.symm (pt_m1 (hy b rfl))
  | some a =>
    cases y with
    | none => exact absurd h (pt_m1 (hx a rfl))
    | some b => rw [(nI_eq (hx a rfl) (hy b rfl)).mp h]
def pt_s (p : Nat → Bool) : Nat → Nat → Option Nat
  | 0, _ => none
  | d + 1, i => if p i = true then some i else pt_s p d (i + 1)
theorem pt_st {p : Nat → Bool} {d i : Nat} (h : p i = true) : pt_s p (d + 1) i = some i := if_pos h
theorem pt_sf {p : Nat → Bool} {d i : Nat} (h : p i = false) : pt_s p (d + 1) i = pt_s p d (i + 1) := if_neg (by rw [h]; decide)
theorem pt_s_some {p : Nat → Bool} : ∀ d i j, pt_s p d i = some j → i ≤ j ∧ j < i + d ∧ p j = true := by
  intro d
  induction d with
  | zero => intro i j h; exact absurd h (by simp [pt_s])
  | succ d ih =>
    intro i j h
    cases hp : p i with
    | true => rw [pt_st hp] at h; cases h; exact ⟨by omega, by omega, hp⟩
    | false =>
      rw [pt_sf hp] at h
      have := ih (i + 1) j h
      exact ⟨by omega, by omega, this.2.2⟩
theorem pt_s_ex {p : Nat → Bool} : ∀ d i j, i ≤ j → j < i + d → p j = true → ∃ r, pt_s p d i = some r := by
  intro d
  induction d with
  | zero => intro i j h1 h2; omega
  | succ d ih =>
    intro i j h1 h2 h3
    cases hp : p i with
    | true => exact ⟨i, pt_st hp⟩
    | false =>
      rw [pt_sf hp]
      have : i ≠ j := by intro e; rw [e, h3] at hp; exact absurd hp (by decide)
      exact ih (i + 1) j (by omega) (by omega) h3
theorem pt_s_cg {p q : Nat → Bool} : ∀ d i, (∀ j, i ≤ j → j < i + d → p j = q j) → pt_s p d i = pt_s q d i := by
  intro d
  induction d with
  | zero => intro i _; rfl
  | succ d ih =>
    intro i h
    have e := h i (Nat.le_refl _) (by omega)
    have r := ih (i + 1) (fun j h1 h2 => h j (by omega) (by omega))
    cases hp : p i with
    | true => rw [pt_st hp, pt_st (e ▸ hp)]
    | false => rw [pt_sf hp, pt_sf (e ▸ hp), r]
def pt_c (p : Nat → Bool) : Nat → Nat
  | 0 => 0
  | n + 1 => pt_c p n + (if p n = true then 1 else 0)
theorem pt_ct {p : Nat → Bool} {n : Nat} (h : p n = true) : pt_c p (n + 1) = pt_c p n + 1 := by
  show _ + (if p n = true then 1 else 0) = _
  rw [if_pos h]
theorem pt_cf {p : Nat → Bool} {n : Nat} (h : p n = false) : pt_c p (n + 1) = pt_c p n := by
  show _ + (if p n = true then 1 else 0) = _
  rw [if_neg (by rw [h]; decide), Nat.add_zero]
theorem pt_c_s (p : Nat → Bool) (n : Nat) : pt_c p n ≤ pt_c p (n + 1) ∧ pt_c p (n + 1) ≤ pt_c p n + 1 := by
  cases hp : p n with
  | true => rw [pt_ct hp]; omega
  | false => rw [pt_cf hp]; omega
theorem pt_c_le (p : Nat → Bool) (n : Nat) : pt_c p n ≤ n := by
  induction n with
  | zero => exact Nat.le_refl _
  | succ n ih => have := pt_c_s p n; omega
theorem pt_c_mono (p : Nat → Bool) (a d : Nat) : pt_c p a ≤ pt_c p (a + d) := by
  induction d with
  | zero => exact Nat.le_refl _
  | succ d ih => have := pt_c_s p (a + d); rw [← Nat.add_assoc]; omega
theorem pt_c_lt {p : Nat → Bool} {a b : Nat} (h : a < b) (ha : p a = true) : pt_c p a < pt_c p b := by
  have h1 := pt_ct ha
  have h2 := pt_c_mono p (a + 1) (b - (a + 1))
  rw [show a + 1 + (b - (a + 1)) = b from by omega] at h2
  omega
theorem pt_c_sub {p q : Nat → Bool} (n : Nat) (h : ∀ i, i < n → p i = true → q i = true) : pt_c p n ≤ pt_c q n := by
  induction n with
  | zero => exact Nat.le_refl _
  | succ n ih =>
    have h1 := ih (fun i hi => h i (by omega))
    cases hp : p n with
    | true => rw [pt_ct hp, pt_ct (h n (by omega) hp)]; omega
    | false => rw [pt_cf hp]; have := pt_c_s q n; omega
theorem pt_c_sublt {p q : Nat → Bool} (n j : Nat) (h : ∀ i, i < n → p i = true → q i = true) (hj : j < n) (hq : q j = true) (hp : p j = false) : pt_c p n < pt_c q n := by
  induction n with
  | zero => omega
  | succ n ih =>
    by_cases e : j = n
    · subst e
      rw [pt_ct hq, pt_cf hp]
      have := pt_c_sub (p := p) (q := q) j (fun i hi => h i (by omega))
      omega
    · have h1 := ih (fun i hi => h i (by omega)) (by omega)
      cases hp : p n with
      | true => rw [pt_ct hp, pt_ct (h n (by omega) hp)]; omega
      | false => rw [pt_cf hp]; have := pt_c_s q n; omega
theorem pt_c_ex {p : Nat → Bool} : ∀ n k, k < pt_c p n → ∃ s, s < n ∧ p s = true ∧ pt_c p s = k := by
  intro n
  induction n with
  | zero => intro k h; exact absurd h (Nat.not_lt_zero _)
  | succ n ih =>
    intro k h
    by_cases h1 : k < pt_c p n
    · obtain ⟨s, a, b, c⟩ := ih k h1
      exact ⟨s, by omega, b, c⟩
    · cases hp : p n with
      | true => rw [pt_ct hp] at h; exact ⟨n, by omega, hp, by omega⟩
      | false => rw [pt_cf hp] at h; exact absurd h h1
end
section
def cl_V (n : Nat) (l : Nat → Nat) : Prop := ∀ i, i < n → l i ≤ i ∧ l (l i) = l i
def cl_K (n : Nat) (sy fi se l : Nat → Nat) : Prop := ∀ i j, i < n → j < n → sy i = sy j → l (fi i) = l (fi j) → l (se i) = l (se j) → l i = l j
def cl_J (n p q : Nat) (l : Nat → Nat) : Nat → Nat := fun k => if k < n ∧ (l k = p ∨ l k = q) then (if q ≤ p then q else p) else l k
def cl_I (n : Nat) (sy fi se l0 l : Nat → Nat) : Prop :=
  cl_V n l ∧ (∀ i, i < n → l (l0 i) = l i) ∧ (∀ M, cl_V n M → cl_K n sy fi se M → (∀ i, i < n → M (l0 i) = M i) → ∀ i, i < n → M (l i) = M i) ∧ (∀ i, n ≤ i → l i = l0 i)
def cl_n (n : Nat) (l : Nat → Nat) : Nat := pt_c (fun i => decide (l i = i)) n
def cl_p (sy fi se l : Nat → Nat) (s f g : Nat) : Nat → Bool := fun j => decide (sy j = s ∧ l (fi j) = f ∧ l (se j) = g)
theorem cl_Jt {n p q : Nat} {l : Nat → Nat} {k : Nat} (h : k < n) (h2 : l k = p ∨ l k = q) : cl_J n p q l k = if q ≤ p then q else p := if_pos ⟨h, h2⟩
theorem cl_Jf {n p q : Nat} {l : Nat → Nat} {k : Nat} (h2 : ¬ (k < n ∧ (l k = p ∨ l k = q))) : cl_J n p q l k = l k := if_neg h2
theorem cl_lt {n : Nat} {l : Nat → Nat} (h : cl_V n l) {i : Nat} (hi : i < n) : l i < n := Nat.lt_of_le_of_lt (h i hi).1 hi
theorem cl_0 {n : Nat} {l : Nat → Nat} (h : cl_V n l) (hn : 0 < n) : l 0 = 0 := Nat.le_zero.mp (h 0 hn).1
theorem cl_mn (p q : Nat) : ((if q ≤ p then q else p) = p ∨ (if q ≤ p then q else p) = q) ∧ (if q ≤ p then q else p) ≤ p ∧ (if q ≤ p then q else p) ≤ q := by
  split <;> omega
theorem cl_JV {n : Nat} {l : Nat → Nat} (h : cl_V n l) {a b : Nat} (ha : a < n) (hb : b < n) : cl_V n (cl_J n (l a) (l b) l) := by
  intro i hi
  have m := cl_mn (l a) (l b)
  by_cases c : l i = l a ∨ l i = l b
  · rw [cl_Jt hi c]
    refine ⟨?_, ?_⟩
    · have := (h i hi).1
      rcases c with c | c <;> omega
    · have hm : l (if l b ≤ l a then l b else l a) = (if l b ≤ l a then l b else l a) := by
        rcases m.1 with e | e
        · rw [e]; exact (h a ha).2
        · rw [e]; exact (h b hb).2
      refine cl_Jt ?_ (by rw [hm]; exact m.1)
      have := cl_lt h ha
      omega
  · have e : cl_J n (l a) (l b) l i = l i := cl_Jf (fun z => c z.2)
    rw [e]
    refine ⟨(h i hi).1, ?_⟩
    rw [cl_Jf (fun z => c (by rw [(h i hi).2] at z; exact z.2)), (h i hi).2]
theorem cl_I0 {n : Nat} {sy fi se l0 : Nat → Nat} (h : cl_V n l0) : cl_I n sy fi se l0 l0 :=
  ⟨h, fun i hi => (h i hi).2, fun _ _ _ hM => hM, fun _ _ => rfl⟩
theorem cl_IJ {n : Nat} {sy fi se l0 l : Nat → Nat} (h0 : cl_V n l0) (h : cl_I n sy fi se l0 l) {a b : Nat} (ha : a < n) (hb : b < n)
    (hab : ∀ M, cl_V n M → cl_K n sy fi se M → (∀ i, i < n → M (l0 i) = M i) → M a = M b) : cl_I n sy fi se l0 (cl_J n (l a) (l b) l) := by
  refine ⟨cl_JV h.1 ha hb, ?_, ?_, ?_⟩
  · intro i hi
    have e := h.2.1 i hi
    have hl := cl_lt h0 hi
    by_cases c : l i = l a ∨ l i = l b
    · rw [cl_Jt hi c, cl_Jt hl (by rw [e]; exact c)]
    · rw [cl_Jf (fun z => c z.2), cl_Jf (fun z => c (by rw [e] at z; exact z.2)), e]
  · intro M hV hK hM i hi
    have hL := h.2.2.1 M hV hK hM
    have e := hab M hV hK hM
    by_cases c : l i = l a ∨ l i = l b
    · rw [cl_Jt hi c]
      have m := cl_mn (l a) (l b)
      have e1 := hL i hi
      have e2 := hL a ha
      have e3 := hL b hb
      rcases m.1 with w | w <;> rw [w] <;> rcases c with c | c <;> rw [c] at e1 <;> omega
    · rw [cl_Jf (fun z => c z.2)]; exact hL i hi
  · intro i hi
    rw [cl_Jf (fun z => by omega)]; exact h.2.2.2 i hi
theorem cl_ab {n : Nat} {sy fi se l0 l : Nat → Nat} (h : cl_I n sy fi se l0 l) (hc : ∀ i, i < n → fi i < n ∧ se i < n) {a b : Nat} (ha : a < n) (hb : b < n)
    (e1 : sy a = sy b) (e2 : l (fi a) = l (fi b)) (e3 : l (se a) = l (se b)) :
    ∀ M, cl_V n M → cl_K n sy fi se M → (∀ i, i < n → M (l0 i) = M i) → M a = M b := by
  intro M hV hK hM
  have hL := h.2.2.1 M hV hK hM
  refine hK a b ha hb e1 ?_ ?_
  · rw [← hL _ (hc a ha).1, ← hL _ (hc b hb).1, e2]
  · rw [← hL _ (hc a ha).2, ← hL _ (hc b hb).2, e3]
theorem cl_U {n : Nat} {sy fi se l0 l l' : Nat → Nat} (h : cl_I n sy fi se l0 l) (k : cl_K n sy fi se l) (h' : cl_I n sy fi se l0 l') (k' : cl_K n sy fi se l') : l = l' := by
  funext i
  by_cases hi : i < n
  · have a := h.2.2.1 l' h'.1 k' h'.2.1 i hi
    have b := h'.2.2.1 l h.1 k h.2.1 i hi
    have c := (h'.1 (l i) (cl_lt h.1 hi)).1
    have d := (h.1 (l' i) (cl_lt h'.1 hi)).1
    omega
  · rw [h.2.2.2 i (by omega), h'.2.2.2 i (by omega)]
theorem cl_B {n : Nat} {sy fi se l0 l : Nat → Nat} (hn : n ≤ 20) (h0 : pt_B l0) (h : cl_I n sy fi se l0 l) : pt_B l := by
  intro i
  by_cases hi : i < n
  · have := cl_lt h.1 hi; omega
  · rw [h.2.2.2 i (by omega)]; exact h0 i
theorem cl_Jn {n : Nat} {l : Nat → Nat} (h : cl_V n l) {a b : Nat} (ha : a < n) (hb : b < n) (hab : l a ≠ l b) : cl_n n (cl_J n (l a) (l b) l) < cl_n n l := by
  have m := cl_mn (l a) (l b)
  have key : ∀ x, x < n → l x = x → x = l a ∨ x = l b → x ≠ (if l b ≤ l a then l b else l a) → cl_n n (cl_J n (l a) (l b) l) < cl_n n l := by
    intro x hx hl hxx hne
    refine pt_c_sublt n x ?_ hx (decide_eq_true hl) (decide_eq_false ?_)
    · intro i hi hp
      have hp := of_decide_eq_true hp
      refine decide_eq_true ?_
      by_cases c : l i = l a ∨ l i = l b
      · rw [cl_Jt hi c] at hp
        rw [← hp]
        rcases m.1 with e | e
        · rw [e]; exact (h a ha).2
        · rw [e]; exact (h b hb).2
      · rw [cl_Jf (fun z => c z.2)] at hp; exact hp
    · rw [cl_Jt hx (by rw [hl]; exact hxx)]
      exact fun z => hne z.symm
  rcases m.1 with e | e
  · exact key (l b) (cl_lt h hb) (h b hb).2 (Or.inr rfl) (by rw [e]; exact fun z => hab z.symm)
  · exact key (l a) (cl_lt h ha) (h a ha).2 (Or.inl rfl) (by rw [e]; exact hab)
theorem cl_Js {n p q i : Nat} {l : Nat → Nat} (h : l i = p ∨ l i = q) : pt_u (cl_J i p q l) i (if q ≤ p then q else p) = cl_J (i + 1) p q l := by
  funext k
  by_cases e : k = i
  · subst e; rw [pt_us, cl_Jt (by omega) h]
  · rw [pt_un e]
    by_cases c : k < i ∧ (l k = p ∨ l k = q)
    · rw [cl_Jt c.1 c.2, cl_Jt (by omega) c.2]
    · rw [cl_Jf c, cl_Jf (fun z => c ⟨by omega, z.2⟩)]
theorem cl_Jk {p q i : Nat} {l : Nat → Nat} (h : ¬ (l i = p ∨ l i = q)) : cl_J i p q l = cl_J (i + 1) p q l := by
  funext k
  by_cases c : k < i ∧ (l k = p ∨ l k = q)
  · rw [cl_Jt c.1 c.2, cl_Jt (by omega) c.2]
  · rw [cl_Jf c, cl_Jf (fun z => c ⟨by
      have : k ≠ i := by intro e; subst e; exact h z.2
      omega, z.2⟩)]
theorem cl_Ji {p q i : Nat} {l : Nat → Nat} : cl_J i p q l i = l i := cl_Jf (fun z => by omega)
theorem cl_J0 {p q : Nat} {l : Nat → Nat} : cl_J 0 p q l = l := by
  funext k
  exact cl_Jf (fun z => by omega)
theorem cl_n1 {n : Nat} {l : Nat → Nat} (h : cl_V n l) (hn : 0 < n) : 0 < cl_n n l := by
  have := pt_c_lt (p := fun i => decide (l i = i)) hn (decide_eq_true (cl_0 h hn))
  exact Nat.lt_of_le_of_lt (Nat.zero_le _) this
end
section
theorem xc_classOf3 {n : Nat} (hn : n ≤ 20) {sy fi se l : Nat → Nat} (bs : pt_B sy) (bl : pt_B l) (hc : ∀ i, i < n → fi i < n ∧ se i < n) (tc : Int32) (tk bd vl : Nat → Int32) {s f g : Nat} (hs : s < 100) (hf : f < 100) (hg : g < 100) (post : Int32 → Prop) :
    ∀ d i, i + d = n → post (pt_o ((pt_s (cl_p sy fi se l s f g) d i).map l)) → wX_classOf_3 post (nI s) (nI f) (nI g) (nI n) tc (pt_f sy) (pt_f fi) (pt_f se) (pt_f l) tk bd vl (d + 1) (nI i) := by
  intro d
  induction d with
  | zero => intro i hi h; exact br_t (nI_le (by omega) (by omega)) h
  | succ d ih =>
    intro i hi h
    have h1 : i < 2 ^ 31 := by omega
    have hx := hc i (by omega)
    have b1 := bs i
    have b2 := bl (fi i)
    have b3 := bl (se i)
    have hin : vp_in (nI i) 20 := vp_in_nI (by omega) (by omega)
    have hskip : cl_p sy fi se l s f g i = false → ∀ y, y = nI i + 1 → wX_classOf_3 post (nI s) (nI f) (nI g) (nI n) tc (pt_f sy) (pt_f fi) (pt_f se) (pt_f l) tk bd vl (d + 1) y :=
      fun hp => nm_r (nI_1 i) (ih (i + 1) (by omega) (by rw [pt_sf hp] at h; exact h))
    refine br_f (nI_ge (by omega) (by omega)) ⟨hin, pk_eq (sy i) s (fun e1 => ⟨hin, ?_, pk_eq (l (fi i)) f (fun e2 => ⟨hin, ?_, pk_eq (l (se i)) g (fun e3 => ⟨hin, ?_⟩) (fun e3 => hskip (decide_eq_false fun z => e3 z.2.2)) (pt_at2 l se h1 (by omega)) rfl⟩) (fun e2 => hskip (decide_eq_false fun z => e2 z.2.1)) (pt_at2 l fi h1 (by omega)) rfl⟩) (fun e1 => hskip (decide_eq_false fun z => e1 z.1)) (pt_at sy h1) rfl⟩
    · rw [pt_at fi h1]; exact vp_in_nI (by omega) (by omega)
    · rw [pt_at se h1]; exact vp_in_nI (by omega) (by omega)
    · rw [pt_st (decide_eq_true ⟨e1, e2, e3⟩)] at h
      rw [pt_at l h1]; exact h
theorem xc_classOf {n : Nat} (hn : n ≤ 20) {sy fi se l : Nat → Nat} (bs : pt_B sy) (bl : pt_B l) (hc : ∀ i, i < n → fi i < n ∧ se i < n) (tc : Int32) (tk bd vl : Nat → Int32) {s f g : Nat} (hs : s < 100) (hf : f < 100) (hg : g < 100) (post : Int32 → Prop)
    (h : post (pt_o ((pt_s (cl_p sy fi se l s f g) n 0).map l))) : wpX_classOf post (nI n, tc, pt_f sy, pt_f fi, pt_f se, pt_f l, tk, bd, vl) (nI s) (nI f) (nI g) :=
  ⟨n + 1, xc_classOf3 hn bs bl hc tc tk bd vl hs hf hg post n 0 (by omega) h⟩
theorem xc_nodeOf3 {n : Nat} (hn : n ≤ 20) {sy fi se : Nat → Nat} (bs : pt_B sy) (bf : pt_B fi) (be : pt_B se) (tc : Int32) (la tk bd vl : Nat → Int32) {s f g : Nat} (hs : s < 100) (hf : f < 100) (hg : g < 100) (post : Int32 → Prop) :
    ∀ d i, i + d = n → post (pt_o (pt_s (fun j => decide (sy j = s ∧ fi j = f ∧ se j = g)) d i)) → wX_nodeOf_3 post (nI s) (nI f) (nI g) (nI n) tc (pt_f sy) (pt_f fi) (pt_f se) la tk bd vl (d + 1) (nI i) := by
  intro d
  induction d with
  | zero => intro i hi h; exact br_t (nI_le (by omega) (by omega)) h
  | succ d ih =>
    intro i hi h
    have h1 : i < 2 ^ 31 := by omega
    have b1 := bs i
    have b2 := bf i
    have b3 := be i
    have hin : vp_in (nI i) 20 := vp_in_nI (by omega) (by omega)
    have hskip : decide (sy i = s ∧ fi i = f ∧ se i = g) = false → ∀ y, y = nI i + 1 → wX_nodeOf_3 post (nI s) (nI f) (nI g) (nI n) tc (pt_f sy) (pt_f fi) (pt_f se) la tk bd vl (d + 1) y :=
      fun hp => nm_r (nI_1 i) (ih (i + 1) (by omega) (by rw [pt_sf hp] at h; exact h))
    refine br_f (nI_ge (by omega) (by omega)) ⟨hin, pk_eq (sy i) s (fun e1 => ⟨hin, pk_eq (fi i) f (fun e2 => ⟨hin, pk_eq (se i) g (fun e3 => ?_) (fun e3 => hskip (decide_eq_false fun z => e3 z.2.2)) (pt_at se h1) rfl⟩) (fun e2 => hskip (decide_eq_false fun z => e2 z.2.1)) (pt_at fi h1) rfl⟩) (fun e1 => hskip (decide_eq_false fun z => e1 z.1)) (pt_at sy h1) rfl⟩
    rw [pt_st (decide_eq_true ⟨e1, e2, e3⟩)] at h
    exact h
theorem xc_join32 {n : Nat} (hn : n ≤ 20) {l : Nat → Nat} (bl : pt_B l) (tc : Int32) (sy fi se tk bd vl : Nat → Int32) {p q : Nat} (hp : p < 100) (hq : q < 100) (post : SX → Prop)
    (h : post (nI n, tc, sy, fi, se, pt_f (cl_J n p q l), tk, bd, vl)) :
    ∀ d i, i + d = n → wX_joinClasses_32 post (nI p) (nI q) (nI (if q ≤ p then q else p)) (nI n) tc (d + 1) (nI i) sy fi se (pt_f (cl_J i p q l)) tk bd vl := by
  intro d
  induction d with
  | zero =>
    intro i hi
    have e : i = n := by omega
    subst e
    exact br_t (nI_le (by omega) (by omega)) h
  | succ d ih =>
    intro i hi
    have h1 : i < 2 ^ 31 := by omega
    have b1 := bl i
    have hin : vp_in (nI i) 20 := vp_in_nI (by omega) (by omega)
    have ha : pt_f (cl_J i p q l) (nI i).toNatClampNeg = nI (l i) := by rw [pt_at _ h1, cl_Ji]
    have hup : l i = p ∨ l i = q → upd (pt_f (cl_J i p q l)) (nI i).toNatClampNeg (nI (if q ≤ p then q else p)) = pt_f (cl_J (i + 1) p q l) := by
      intro c
      rw [pt_up _ _ h1, cl_Js (n := n) c]
    have ih := ih (i + 1) (by omega)
    refine br_f (nI_ge (by omega) (by omega)) ⟨hin, pk_eq (l i) p (fun e1 => ⟨hin, nm_r (hup (Or.inl e1)) (nm_r (nI_1 i) ih)⟩) (fun e1 => ⟨hin, pk_eq (l i) q (fun e2 => ⟨hin, nm_r (hup (Or.inr e2)) (nm_r (nI_1 i) ih)⟩) (fun e2 => nm_r (nI_1 i) ?_) ha rfl⟩) ha rfl⟩
    rw [cl_Jk (fun z => z.elim e1 e2)]
    exact ih
theorem xc_join {n : Nat} (hn : n ≤ 20) {l : Nat → Nat} (bl : pt_B l) (tc : Int32) (sy fi se tk bd vl : Nat → Int32) {a b : Nat} (ha : a < 20) (hb : b < 20) (post : SX → Prop)
    (h : post (nI n, tc, sy, fi, se, pt_f (cl_J n (l a) (l b) l), tk, bd, vl)) :
    wpX_joinClasses post (nI n, tc, sy, fi, se, pt_f l, tk, bd, vl) (nI a) (nI b) := by
  have b1 := bl a
  have b2 := bl b
  have w := xc_join32 hn bl tc sy fi se tk bd vl b1 b2 post h n 0 (by omega)
  rw [cl_J0] at w
  refine ⟨vp_in_nI ha (by omega), nm_r (pt_at l (by omega)) ⟨vp_in_nI hb (by omega), nm_r (pt_at l (by omega)) (pk_le (l b) (l a) (fun e => ⟨n + 1, ?_⟩) (fun e => ⟨n + 1, ?_⟩))⟩⟩
  · rw [if_pos e] at w; exact w
  · rw [if_neg (by omega)] at w; exact w
theorem xc_pass {n : Nat} (hn : n ≤ 20) {sy fi se l0 lS : Nat → Nat} (bs : pt_B sy) (b0 : pt_B l0) (h0 : cl_V n l0) (hc : ∀ i, i < n → fi i < n ∧ se i < n) (tc : Int32) (tk bd vl : Nat → Int32) (x2 : Int32) (post : SX → Prop)
    (J4 : Int32 → Int32 → Int32 → Int32 → (Nat → Int32) → (Nat → Int32) → (Nat → Int32) → (Nat → Int32) → (Nat → Int32) → (Nat → Int32) → (Nat → Int32) → Prop)
    (hJ : ∀ x1 l, cl_I n sy fi se l0 l → (x1 = 0 ∧ cl_K n sy fi se l ∨ x1 = 1 ∧ cl_n n l < cl_n n lS) → J4 x1 (x2 + 1) (nI n) tc (pt_f sy) (pt_f fi) (pt_f se) (pt_f l) tk bd vl) :
    ∀ d i x1 l, i + d = n → cl_I n sy fi se l0 l → (x1 = 0 ∧ l = lS ∧ (∀ j, j < i → ∀ r, pt_s (cl_p sy fi se l (sy j) (l (fi j)) (l (se j))) n 0 = some r → l r = l j) ∨ x1 = 1 ∧ cl_n n l < cl_n n lS) →
      wX_joinCongruentNodes_18 post J4 x2 (d + 1) x1 (nI i) (nI n) tc (pt_f sy) (pt_f fi) (pt_f se) (pt_f l) tk bd vl := by
  intro d
  induction d with
  | zero =>
    intro i x1 l hi hI hx
    refine br_t (nI_le (by omega) (by omega)) (nm_e (hJ x1 l hI ?_))
    rcases hx with ⟨e, el, hx⟩ | hx
    · refine Or.inl ⟨e, ?_⟩
      intro a b ha hb e1 e2 e3
      obtain ⟨r, hr⟩ := pt_s_ex (p := cl_p sy fi se l (sy a) (l (fi a)) (l (se a))) n 0 a (by omega) (by omega) (decide_eq_true ⟨rfl, rfl, rfl⟩)
      have h1 := hx a (by omega) r hr
      rw [e1, e2, e3] at hr
      have h2 := hx b (by omega) r hr
      exact h1.symm.trans h2
    · exact Or.inr hx
  | succ d ih =>
    intro i x1 l hi hI hx
    have hin : i < n := by omega
    have h1 : i < 2 ^ 31 := by omega
    have hi20 : vp_in (nI i) 20 := vp_in_nI (by omega) (by omega)
    have bl := cl_B hn b0 hI
    have c := hc i hin
    obtain ⟨r, hr⟩ := pt_s_ex (p := cl_p sy fi se l (sy i) (l (fi i)) (l (se i))) n 0 i (by omega) (by omega) (decide_eq_true ⟨rfl, rfl, rfl⟩)
    have hr2 := pt_s_some _ _ _ hr
    have hrn : r < n := by omega
    have hk := of_decide_eq_true hr2.2.2
    have lr := hI.1 r hrn
    have lrn := cl_lt hI.1 hrn
    refine br_f (nI_ge (by omega) (by omega)) ⟨hi20, hi20, ?_, hi20, ?_, ?_⟩
    · rw [pt_at fi h1]; exact vp_in_nI (by omega) (by omega)
    · rw [pt_at se h1]; exact vp_in_nI (by omega) (by omega)
    · rw [pt_at2 l fi h1 (by omega), pt_at2 l se h1 (by omega), pt_at sy h1]
      refine xc_classOf hn bs bl hc tc tk bd vl (bs i) (bl _) (bl _) _ ?_
      rw [hr]
      have b1 := bl r
      have b2 := bl i
      refine ⟨hi20, pk_eq (l r) (l i) (fun e => nm_r (nI_1 i) (ih (i + 1) x1 l (by omega) hI ?_)) (fun e => ?_) rfl (pt_at l h1)⟩
      · rcases hx with ⟨e1, el, hx⟩ | hx
        · refine Or.inl ⟨e1, el, ?_⟩
          intro j hj r' hr'
          by_cases ej : j = i
          · subst ej
            rw [hr] at hr'
            cases hr'
            exact e
          · exact hx j (by omega) r' hr'
        · exact Or.inr hx
      · refine xc_join hn bl tc _ _ _ tk bd vl (by omega) (show l r < 20 by omega) _ (nm_r (nI_1 i) (ih (i + 1) 1 _ (by omega) ?_ ?_))
        · refine cl_IJ h0 hI hin lrn ?_
          intro M hV hK hM
          rw [cl_ab hI hc hin hrn hk.1.symm hk.2.1.symm hk.2.2.symm M hV hK hM]
          exact (hI.2.2.1 M hV hK hM r hrn).symm
        · refine Or.inr ⟨rfl, ?_⟩
          have := cl_Jn hI.1 hin lrn (by rw [lr.2]; exact fun z => e z.symm)
          rcases hx with ⟨_, el, _⟩ | hx
          · rw [← el]; exact this
          · omega
theorem xc_close4 {n : Nat} (hn : n ≤ 20) (hn0 : 0 < n) {sy fi se l0 : Nat → Nat} (bs : pt_B sy) (b0 : pt_B l0) (h0 : cl_V n l0) (hc : ∀ i, i < n → fi i < n ∧ se i < n) (tc : Int32) (tk bd vl : Nat → Int32) (post : SX → Prop)
    (h : ∀ l, cl_I n sy fi se l0 l → cl_K n sy fi se l → post (nI n, tc, pt_f sy, pt_f fi, pt_f se, pt_f l, tk, bd, vl)) :
    ∀ d t x1 l, t + d = 20 → cl_I n sy fi se l0 l → (x1 = 0 ∧ cl_K n sy fi se l ∨ x1 = 1 ∧ cl_n n l + t ≤ n) →
      wX_joinCongruentNodes_4 post (d + 1) x1 (nI t) (nI n) tc (pt_f sy) (pt_f fi) (pt_f se) (pt_f l) tk bd vl := by
  intro d
  induction d with
  | zero =>
    intro t x1 l ht hI hx
    refine br_t (nI_le (a := 20) (by omega) (by omega)) ?_
    rcases hx with hx | hx
    · exact h l hI hx.2
    · have := cl_n1 hI.1 hn0
      omega
  | succ d ih =>
    intro t x1 l ht hI hx
    refine br_f (nI_ge (b := 20) (by omega) (by omega)) ?_
    rcases hx with ⟨e, hk⟩ | ⟨e, hx⟩
    · exact br_t e (h l hI hk)
    · refine br_f (by rw [e]; decide) ⟨n + 1, xc_pass (lS := l) hn bs b0 h0 hc tc tk bd vl (nI t) post _ ?_ n 0 0 l (by omega) hI (Or.inl ⟨rfl, rfl, fun j hj => absurd hj (Nat.not_lt_zero _)⟩)⟩
      intro y1 l' hI' hy
      rw [nI_1 t]
      refine ih (t + 1) y1 l' (by omega) hI' ?_
      rcases hy with hy | hy
      · exact Or.inl hy
      · exact Or.inr ⟨hy.1, by omega⟩
theorem xc_close {n : Nat} (hn : n ≤ 20) (hn0 : 0 < n) {sy fi se l0 : Nat → Nat} (bs : pt_B sy) (b0 : pt_B l0) (h0 : cl_V n l0) (hc : ∀ i, i < n → fi i < n ∧ se i < n) (tc : Int32) (tk bd vl : Nat → Int32) (post : SX → Prop)
    (h : ∀ l, cl_I n sy fi se l0 l → cl_K n sy fi se l → post (nI n, tc, pt_f sy, pt_f fi, pt_f se, pt_f l, tk, bd, vl)) :
    wpX_joinCongruentNodes post (nI n, tc, pt_f sy, pt_f fi, pt_f se, pt_f l0, tk, bd, vl) :=
  ⟨21, xc_close4 hn hn0 bs b0 h0 hc tc tk bd vl post h 20 0 1 l0 (by omega) (cl_I0 h0) (Or.inr ⟨rfl, pt_c_le _ _⟩)⟩
theorem xc_made {n : Nat} (hn : n ≤ 20) {sy fi se l : Nat → Nat} (bs : pt_B sy) (bf : pt_B fi) (be : pt_B se) (bl : pt_B l) (hV : cl_V n l) (hc : ∀ i, i < n → fi i < n ∧ se i < n) (tc : Int32) (tk bd vl : Nat → Int32) {s f g : Nat} (hs : s < 100) (hf : f < n + 1) (hg : g < n + 1) (post : Int32 → SX → Prop)
    (h1 : ∀ r, pt_s (fun j => decide (sy j = s ∧ fi j = f ∧ se j = g)) n 0 = some r → post (nI r) (nI n, tc, pt_f sy, pt_f fi, pt_f se, pt_f l, tk, bd, vl))
    (h2 : pt_s (fun j => decide (sy j = s ∧ fi j = f ∧ se j = g)) n 0 = none → n = 20 → post (-2) (nI n, tc, pt_f sy, pt_f fi, pt_f se, pt_f l, tk, bd, vl))
    (h3 : pt_s (fun j => decide (sy j = s ∧ fi j = f ∧ se j = g)) n 0 = none → n < 20 → ∀ l', cl_I (n + 1) (pt_u sy n s) (pt_u fi n f) (pt_u se n g) (pt_u l n n) l' → cl_K (n + 1) (pt_u sy n s) (pt_u fi n f) (pt_u se n g) l' → post (nI n) (nI (n + 1), tc, pt_f (pt_u sy n s), pt_f (pt_u fi n f), pt_f (pt_u se n g), pt_f l', tk, bd, vl)) :
    wpX_nodeMade post (nI n, tc, pt_f sy, pt_f fi, pt_f se, pt_f l, tk, bd, vl) (nI s) (nI f) (nI g) := by
  refine ⟨n + 1, xc_nodeOf3 hn bs bf be tc _ tk bd vl hs (by omega) (by omega) _ n 0 (by omega) ?_⟩
  cases hr : pt_s (fun j => decide (sy j = s ∧ fi j = f ∧ se j = g)) n 0 with
  | some r =>
    have := pt_s_some _ _ _ hr
    exact br_f (pt_m1 (by omega)) (h1 r hr)
  | none =>
    refine br_t rfl (pk_lt n 20 (fun hlt => ?_) (fun hge => h2 hr (by omega)))
    have hi : vp_in (nI n) 20 := vp_in_nI (by omega) (by omega)
    have hb : n < 2 ^ 31 := by omega
    refine ⟨hi, nm_r (pt_up sy s hb) ⟨hi, nm_r (pt_up fi f hb) ⟨hi, nm_r (pt_up se g hb) ⟨hi, nm_r (pt_up l n hb) (nm_r (nI_1 n) (xc_close (by omega) (by omega) (pt_uB bs hs) (pt_uB bl (by omega)) ?_ ?_ tc tk bd vl _ (fun l' => h3 hr hlt l')))⟩⟩⟩⟩
    · intro i hi
      by_cases e : i = n
      · subst e; rw [pt_us, pt_us]; exact ⟨by omega, rfl⟩
      · have hl := hV i (by omega)
        have : l i ≠ n := by omega
        rw [pt_un e, pt_un this]; exact hl
    · intro i hi
      by_cases e : i = n
      · subst e; rw [pt_us, pt_us]; exact ⟨hf, hg⟩
      · have := hc i (by omega)
        rw [pt_un e, pt_un e]; exact ⟨by omega, by omega⟩
theorem xc_count4 {n : Nat} (hn : n ≤ 20) {l : Nat → Nat} (bl : pt_B l) (tc : Int32) (sy fi se tk bd vl : Nat → Int32) (post : Int32 → Prop) (h : post (nI (cl_n n l))) :
    ∀ d i, i + d = n → wX_classCount_4 post (nI n) tc sy fi se (pt_f l) tk bd vl (d + 1) (nI (cl_n i l)) (nI i) := by
  intro d
  induction d with
  | zero =>
    intro i hi
    have e : i = n := by omega
    subst e
    exact br_t (nI_le (by omega) (by omega)) h
  | succ d ih =>
    intro i hi
    have h1 : i < 2 ^ 31 := by omega
    have b1 := bl i
    have ih := ih (i + 1) (by omega)
    refine br_f (nI_ge (by omega) (by omega)) ⟨vp_in_nI (by omega) (by omega), pk_eq (l i) i (fun e => ?_) (fun e => ?_) (pt_at l h1) rfl⟩
    · rw [show cl_n (i + 1) l = cl_n i l + 1 from pt_ct (decide_eq_true e)] at ih
      exact nm_r (nI_1 (cl_n i l)) (nm_r (nI_1 i) ih)
    · rw [show cl_n (i + 1) l = cl_n i l from pt_cf (decide_eq_false e)] at ih
      exact nm_r (nI_1 i) ih
theorem xc_count {n : Nat} (hn : n ≤ 20) {l : Nat → Nat} (bl : pt_B l) (tc : Int32) (sy fi se tk bd vl : Nat → Int32) (post : Int32 → Prop) (h : post (nI (cl_n n l))) :
    wpX_classCount post (nI n, tc, sy, fi, se, pt_f l, tk, bd, vl) := ⟨n + 1, xc_count4 hn bl tc sy fi se tk bd vl post h n 0 (by omega)⟩
end
section
def cl_E (n : Nat) (sy fi se kd aa bb : Nat → Nat) : Prop :=
  (∀ k, k < n → (kd k = 0 ∧ sy k = 10 + aa k ∧ aa k < 6 ∧ fi k = 0 ∧ se k = 0 ∧ bb k = 0) ∨ (kd k = 1 ∧ sy k = 20 ∧ fi k = aa k ∧ aa k < n ∧ se k = 0 ∧ bb k = 0) ∨ (kd k = 2 ∧ sy k = 21 ∧ fi k = aa k ∧ aa k < n ∧ se k = bb k ∧ bb k < n))
  ∧ (∀ i j, i < n → j < n → kd i = 0 → kd j = 0 → aa i = aa j → i = j)
theorem cl_Ec {n : Nat} {sy fi se kd aa bb : Nat → Nat} (h : cl_E n sy fi se kd aa bb) : ∀ i, i < n → fi i < n ∧ se i < n := by
  intro i hi
  rcases h.1 i hi with h | h | h <;> omega
theorem cl_Ed {n : Nat} (hn : n ≤ 20) {sy fi se kd aa bb : Nat → Nat} (h : cl_E n sy fi se kd aa bb) : ∀ i, i < n → aa i < 20 ∧ bb i < 20 ∧ kd i < 3 := by
  intro i hi
  rcases h.1 i hi with h | h | h <;> omega
def cl_A (kd aa bb l : Nat → Nat) (x y : Nat) : Prop := kd x = kd y ∧ kd x ≠ 0 ∧ l (aa x) = l (aa y) ∧ (kd x = 1 ∨ l (bb x) = l (bb y))
theorem cl_Ak {n : Nat} {sy fi se kd aa bb l : Nat → Nat} (h : cl_E n sy fi se kd aa bb) {x y : Nat} (hx : x < n) (hy : y < n) (a : cl_A kd aa bb l x y) : sy x = sy y ∧ l (fi x) = l (fi y) ∧ l (se x) = l (se y) := by
  obtain ⟨a1, a2, a3, a4⟩ := a
  rcases h.1 x hx with h1 | h1 | h1 <;> rcases h.1 y hy with h2 | h2 | h2
  · omega
  · omega
  · omega
  · omega
  · obtain ⟨p1, p2, p3, p4, p5, p6⟩ := h1
    obtain ⟨q1, q2, q3, q4, q5, q6⟩ := h2
    rw [p2, q2, p3, q3, p5, q5]
    exact ⟨rfl, a3, rfl⟩
  · omega
  · omega
  · omega
  · obtain ⟨p1, p2, p3, p4, p5, p6⟩ := h1
    obtain ⟨q1, q2, q3, q4, q5, q6⟩ := h2
    rw [p2, q2, p3, q3, p5, q5]
    exact ⟨rfl, a3, a4.resolve_left (by omega)⟩
theorem cl_kA {n : Nat} {sy fi se kd aa bb l : Nat → Nat} (h : cl_E n sy fi se kd aa bb) {x y : Nat} (hx : x < n) (hy : y < n) (e1 : sy x = sy y) (e2 : l (fi x) = l (fi y)) (e3 : l (se x) = l (se y)) : x = y ∨ cl_A kd aa bb l x y := by
  rcases h.1 x hx with h1 | h1 | h1 <;> rcases h.1 y hy with h2 | h2 | h2
  · exact Or.inl (h.2 x y hx hy (by omega) (by omega) (by omega))
  · omega
  · omega
  · omega
  · obtain ⟨p1, p2, p3, p4, p5, p6⟩ := h1
    obtain ⟨q1, q2, q3, q4, q5, q6⟩ := h2
    rw [p3, q3] at e2
    exact Or.inr ⟨by omega, by omega, e2, Or.inl p1⟩
  · omega
  · omega
  · omega
  · obtain ⟨p1, p2, p3, p4, p5, p6⟩ := h1
    obtain ⟨q1, q2, q3, q4, q5, q6⟩ := h2
    rw [p3, q3] at e2
    rw [p5, q5] at e3
    exact Or.inr ⟨by omega, by omega, e2, Or.inr e3⟩
theorem yc_alike {n : Nat} {kd aa bb l : Nat → Nat} (bk : pt_B kd) (bl : pt_B l) (hd : ∀ i, i < n → aa i < 20 ∧ bb i < 20 ∧ kd i < 3) (tc w ct fd : Int32) (tk bd kp st : Nat → Int32) {x y : Nat} (hn : n ≤ 20) (hx : x < n) (hy : y < n) (post : Int32 → Prop)
    (h1 : cl_A kd aa bb l x y → post 1) (h0 : ¬ cl_A kd aa bb l x y → post 0) :
    wpY_alike post (nI n, tc, w, ct, fd, pt_f kd, pt_f aa, pt_f bb, pt_f l, tk, bd, kp, st) (nI x) (nI y) := by
  have i1 : vp_in (nI x) 20 := vp_in_nI (by omega) (by omega)
  have i2 : vp_in (nI y) 20 := vp_in_nI (by omega) (by omega)
  have l1 : x < 2 ^ 31 := by omega
  have l2 : y < 2 ^ 31 := by omega
  have d1 := hd x hx
  have d2 := hd y hy
  have b1 := bl (aa x)
  have b2 := bl (aa y)
  have b3 := bl (bb x)
  have b4 := bl (bb y)
  have j1 : vp_in (pt_f aa (nI x).toNatClampNeg) 20 := by rw [pt_at aa l1]; exact vp_in_nI (by omega) (by omega)
  have j2 : vp_in (pt_f aa (nI y).toNatClampNeg) 20 := by rw [pt_at aa l2]; exact vp_in_nI (by omega) (by omega)
  have j3 : vp_in (pt_f bb (nI x).toNatClampNeg) 20 := by rw [pt_at bb l1]; exact vp_in_nI (by omega) (by omega)
  have j4 : vp_in (pt_f bb (nI y).toNatClampNeg) 20 := by rw [pt_at bb l2]; exact vp_in_nI (by omega) (by omega)
  refine ⟨i1, i2, pk_eq (kd x) (kd y) (fun e1 => ⟨i1, pk_eq (kd x) 0 (fun e2 => h0 fun z => z.2.1 e2) (fun e2 => ⟨i1, j1, i2, j2, pk_eq (l (aa x)) (l (aa y)) (fun e3 => ⟨i1, pk_eq (kd x) 1 (fun e4 => h1 ⟨e1, e2, e3, Or.inl e4⟩) (fun e4 => ⟨i1, j3, i2, j4, pk_eq (l (bb x)) (l (bb y)) (fun e5 => h1 ⟨e1, e2, e3, Or.inr e5⟩) (fun e5 => h0 fun z => z.2.2.2.elim e4 e5) (pt_at2 l bb l1 (by omega)) (pt_at2 l bb l2 (by omega))⟩) (pt_at kd l1) rfl⟩) (fun e3 => h0 fun z => e3 z.2.2.1) (pt_at2 l aa l1 (by omega)) (pt_at2 l aa l2 (by omega))⟩) (pt_at kd l1) rfl⟩) (fun e1 => h0 fun z => e1 z.1) (pt_at kd l1) (pt_at kd l2)⟩
theorem yc_join66 {n : Nat} (hn : n ≤ 20) {l : Nat → Nat} (bl : pt_B l) (tc w ct fd : Int32) (kd aa bb tk bd kp st : Nat → Int32) {p q m M : Nat} (hp : p < 100) (hq : q < 100) (hm : m = if q ≤ p then q else p) (hM : M = p ∧ q ≤ p ∨ M = q ∧ p ≤ q) (post : Int32 → SY → Prop)
    (h : post (if p = q then 0 else 1) (nI n, tc, w, ct, fd, kd, aa, bb, pt_f (cl_J n p q l), tk, bd, kp, st)) :
    ∀ d i, i + d = n → wY_join_66 post (nI m) (nI M) (nI n) tc w ct fd (d + 1) (nI i) kd aa bb (pt_f (cl_J i p q l)) tk bd kp st := by
  have hmm : m = p ∧ p ≤ q ∨ m = q ∧ q ≤ p := by
    rw [hm]
    split <;> omega
  intro d
  induction d with
  | zero =>
    intro i hi
    have e : i = n := by omega
    subst e
    refine br_t (nI_le (by omega) (by omega)) (pk_eq m M (fun e => ?_) (fun e => ?_))
    · rw [if_pos (by omega)] at h; exact h
    · rw [if_neg (by omega)] at h; exact h
  | succ d ih =>
    intro i hi
    have h1 : i < 2 ^ 31 := by omega
    have b1 := bl i
    have hin : vp_in (nI i) 20 := vp_in_nI (by omega) (by omega)
    have ha : pt_f (cl_J i p q l) (nI i).toNatClampNeg = nI (l i) := by rw [pt_at _ h1, cl_Ji]
    have hup : l i = p ∨ l i = q → pt_u (cl_J i p q l) i m = cl_J (i + 1) p q l := by
      intro c
      rw [hm]
      exact cl_Js (n := n) c
    have ih := ih (i + 1) (by omega)
    refine br_f (nI_ge (by omega) (by omega)) ⟨hin, pk_eq (l i) M (fun e1 => ⟨hin, nm_r (e' := pt_f (cl_J (i + 1) p q l)) ?_ (nm_r (nI_1 i) ih)⟩) (fun e1 => nm_r (nI_1 i) ?_) ha rfl⟩
    · rw [pt_up _ _ h1, hup (by omega)]
    · have e : cl_J i p q l = cl_J (i + 1) p q l := by
        by_cases c : l i = p ∨ l i = q
        · rw [← hup c]
          funext k
          by_cases ek : k = i
          · subst ek; rw [pt_us, cl_Ji]; omega
          · rw [pt_un ek]
        · exact cl_Jk c
      rw [e]
      exact ih
theorem yc_join {n : Nat} (hn : n ≤ 20) {l : Nat → Nat} (bl : pt_B l) (tc w ct fd : Int32) (kd aa bb tk bd kp st : Nat → Int32) {a b : Nat} (ha : a < 20) (hb : b < 20) (post : Int32 → SY → Prop)
    (h : post (if l a = l b then 0 else 1) (nI n, tc, w, ct, fd, kd, aa, bb, pt_f (cl_J n (l a) (l b) l), tk, bd, kp, st)) :
    wpY_join post (nI n, tc, w, ct, fd, kd, aa, bb, pt_f l, tk, bd, kp, st) (nI a) (nI b) := by
  have b1 := bl a
  have b2 := bl b
  have i1 : vp_in (nI a) 20 := vp_in_nI (by omega) (by omega)
  have i2 : vp_in (nI b) 20 := vp_in_nI (by omega) (by omega)
  have l1 : pt_f l (nI a).toNatClampNeg = nI (l a) := pt_at l (by omega)
  have l2 : pt_f l (nI b).toNatClampNeg = nI (l b) := pt_at l (by omega)
  have key : ∀ m M, (m = if l b ≤ l a then l b else l a) → (M = l a ∧ l b ≤ l a ∨ M = l b ∧ l a ≤ l b) → ∃ n66 : Nat, wY_join_66 post (nI m) (nI M) (nI n) tc w ct fd n66 0 kd aa bb (pt_f l) tk bd kp st := by
    intro m M hm hM
    have w := yc_join66 hn bl tc w ct fd kd aa bb tk bd kp st b1 b2 hm hM post h n 0 (by omega)
    rw [cl_J0] at w
    exact ⟨n + 1, w⟩
  refine ⟨i1, i2, pk_le (l b) (l a) (fun e => ⟨i2, ?_⟩) (fun e => ⟨i1, ?_⟩) l2 l1⟩
  · rw [l2]
    exact ⟨i1, i2, br_t (by rw [l1, l2]; exact nI_le e (by omega)) ⟨i1, nm_r l1 (key _ _ (if_pos e).symm (Or.inl ⟨rfl, e⟩))⟩⟩
  · rw [l1]
    exact ⟨i1, i2, br_f (by rw [l1, l2]; exact nI_ge e (by omega)) ⟨i2, nm_r l2 (key _ _ (if_neg (by omega)).symm (Or.inr ⟨rfl, by omega⟩))⟩⟩
theorem yc_pass {n : Nat} (hn : n ≤ 20) (hn0 : 0 < n) {sy fi se kd aa bb l0 lS : Nat → Nat} (bk : pt_B kd) (b0 : pt_B l0) (h0 : cl_V n l0) (hE : cl_E n sy fi se kd aa bb) (tc w ct fd : Int32) (tk bd kp st : Nat → Int32) (x2 : Int32) (post : SY → Prop)
    (J4 : Int32 → Int32 → Int32 → Int32 → Int32 → Int32 → Int32 → (Nat → Int32) → (Nat → Int32) → (Nat → Int32) → (Nat → Int32) → (Nat → Int32) → (Nat → Int32) → (Nat → Int32) → (Nat → Int32) → Prop)
    (hJ : ∀ x1 l, cl_I n sy fi se l0 l → (x1 = 0 ∧ cl_K n sy fi se l ∨ x1 = 1 ∧ cl_n n l < cl_n n lS) → J4 x1 (x2 + 1) (nI n) tc w ct fd (pt_f kd) (pt_f aa) (pt_f bb) (pt_f l) tk bd kp st) :
    ∀ d t x1 l, t + d = n * n → cl_I n sy fi se l0 l → (x1 = 0 ∧ l = lS ∧ (∀ j, j < t → cl_A kd aa bb l (j / n) (j % n) → l (j / n) = l (j % n)) ∨ x1 = 1 ∧ cl_n n l < cl_n n lS) →
      wY_follow_18 post J4 x2 (d + 1) x1 (nI t) (nI n) tc w ct fd (pt_f kd) (pt_f aa) (pt_f bb) (pt_f l) tk bd kp st := by
  have hnn : n * n ≤ 20 * 20 := Nat.mul_le_mul hn hn
  intro d
  induction d with
  | zero =>
    intro t x1 l ht hI hx
    refine br_t (by rw [pk_mul]; exact nI_le (by omega) (by omega)) (nm_e (hJ x1 l hI ?_))
    rcases hx with ⟨e, el, hx⟩ | hx
    · refine Or.inl ⟨e, ?_⟩
      intro a b ha hb e1 e2 e3
      rcases cl_kA (l := l) hE ha hb e1 e2 e3 with ee | hA
      · rw [ee]
      · have g1 : (b + a * n) / n = a := by rw [Nat.add_mul_div_right b a hn0, Nat.div_eq_of_lt hb, Nat.zero_add]
        have g2 : (b + a * n) % n = b := by rw [Nat.add_mul_mod_self_right, Nat.mod_eq_of_lt hb]
        have g3 : (a + 1) * n ≤ n * n := Nat.mul_le_mul_right n ha
        rw [Nat.succ_mul] at g3
        have := hx (b + a * n) (by omega)
        rw [g1, g2] at this
        exact this hA
    · exact Or.inr hx
  | succ d ih =>
    intro t x1 l ht hI hx
    have bl := cl_B hn b0 hI
    have tl : t < 2 ^ 31 := by omega
    have nl : n < 2 ^ 31 := by omega
    have hnz : ¬ nI n = 0 := nI_ne0 hn0 nl
    have hX : t / n < n := Nat.div_lt_of_lt_mul (by omega)
    have hY : t % n < n := Nat.mod_lt _ hn0
    refine br_f (by rw [pk_mul]; exact nI_ge (by omega) (by omega)) ⟨hnz, hnz, ?_⟩
    rw [pk_rem tl hn0 nl, pk_div tl hn0 nl]
    have hgo : ∀ l' y1, cl_I n sy fi se l0 l' → (y1 = 0 ∧ l' = lS ∧ (∀ j, j < t + 1 → cl_A kd aa bb l' (j / n) (j % n) → l' (j / n) = l' (j % n)) ∨ y1 = 1 ∧ cl_n n l' < cl_n n lS) → ∀ y, y = nI t + 1 → wY_follow_18 post J4 x2 (d + 1) y1 y (nI n) tc w ct fd (pt_f kd) (pt_f aa) (pt_f bb) (pt_f l') tk bd kp st :=
      fun l' y1 hI' hy => nm_r (nI_1 t) (ih (t + 1) y1 l' (by omega) hI' hy)
    have hstay : (cl_A kd aa bb l (t / n) (t % n) → l (t / n) = l (t % n)) → (x1 = 0 ∧ l = lS ∧ (∀ j, j < t + 1 → cl_A kd aa bb l (j / n) (j % n) → l (j / n) = l (j % n)) ∨ x1 = 1 ∧ cl_n n l < cl_n n lS) := by
      intro ha
      rcases hx with ⟨e, el, hx⟩ | hx
      · refine Or.inl ⟨e, el, ?_⟩
        intro j hj
        by_cases ej : j = t
        · subst ej; exact ha
        · exact hx j (by omega)
      · exact Or.inr hx
    refine yc_alike bk bl (cl_Ed hn hE) tc w ct fd tk bd kp st hn hX hY _ (fun hA => br_f (by decide) ⟨hnz, hnz, yc_join hn bl tc w ct fd _ _ _ tk bd kp st (by omega) (by omega) _ ?_⟩) (fun hA => br_t rfl (hgo l x1 hI (hstay fun z => absurd z hA)))
    by_cases e : l (t / n) = l (t % n)
    · have ej : cl_J n (l (t / n)) (l (t % n)) l = l := by
        funext k
        by_cases c : k < n ∧ (l k = l (t / n) ∨ l k = l (t % n))
        · rw [cl_Jt c.1 c.2]
          have m := (cl_mn (l (t / n)) (l (t % n))).1
          have := c.2
          omega
        · exact cl_Jf c
      rw [if_pos e, ej]
      exact br_t rfl (hgo l x1 hI (hstay fun _ => e))
    · rw [if_neg e]
      have k := cl_Ak hE hX hY hA
      refine br_f (by decide) (hgo _ 1 (cl_IJ h0 hI hX hY (cl_ab hI (cl_Ec hE) hX hY k.1 k.2.1 k.2.2)) (Or.inr ⟨rfl, ?_⟩))
      have := cl_Jn hI.1 hX hY e
      rcases hx with ⟨_, el, _⟩ | hx
      · rw [← el]; exact this
      · omega
theorem yc_close4 {n : Nat} (hn : n ≤ 20) (hn0 : 0 < n) {sy fi se kd aa bb l0 : Nat → Nat} (bk : pt_B kd) (b0 : pt_B l0) (h0 : cl_V n l0) (hE : cl_E n sy fi se kd aa bb) (tc w ct fd : Int32) (tk bd kp st : Nat → Int32) (post : SY → Prop)
    (h : ∀ l, cl_I n sy fi se l0 l → cl_K n sy fi se l → post (nI n, tc, w, ct, fd, pt_f kd, pt_f aa, pt_f bb, pt_f l, tk, bd, kp, st)) :
    ∀ d t x1 l, t + d = 20 → cl_I n sy fi se l0 l → (x1 = 0 ∧ cl_K n sy fi se l ∨ x1 = 1 ∧ cl_n n l + t ≤ n) →
      wY_follow_4 post (d + 1) x1 (nI t) (nI n) tc w ct fd (pt_f kd) (pt_f aa) (pt_f bb) (pt_f l) tk bd kp st := by
  intro d
  induction d with
  | zero =>
    intro t x1 l ht hI hx
    refine br_t (nI_le (a := 20) (by omega) (by omega)) ?_
    rcases hx with hx | hx
    · exact h l hI hx.2
    · have := cl_n1 hI.1 hn0
      omega
  | succ d ih =>
    intro t x1 l ht hI hx
    refine br_f (nI_ge (b := 20) (by omega) (by omega)) ?_
    rcases hx with ⟨e, hk⟩ | ⟨e, hx⟩
    · exact br_t e (h l hI hk)
    · refine br_f (by rw [e]; decide) ⟨n * n + 1, yc_pass (lS := l) hn hn0 bk b0 h0 hE tc w ct fd tk bd kp st (nI t) post _ ?_ (n * n) 0 0 l (by omega) hI (Or.inl ⟨rfl, rfl, fun j hj => absurd hj (Nat.not_lt_zero _)⟩)⟩
      intro y1 l' hI' hy
      rw [nI_1 t]
      refine ih (t + 1) y1 l' (by omega) hI' ?_
      rcases hy with hy | hy
      · exact Or.inl hy
      · exact Or.inr ⟨hy.1, by omega⟩
theorem yc_close {n : Nat} (hn : n ≤ 20) (hn0 : 0 < n) {sy fi se kd aa bb l0 : Nat → Nat} (bk : pt_B kd) (b0 : pt_B l0) (h0 : cl_V n l0) (hE : cl_E n sy fi se kd aa bb) (tc w ct fd : Int32) (tk bd kp st : Nat → Int32) (post : SY → Prop)
    (h : ∀ l, cl_I n sy fi se l0 l → cl_K n sy fi se l → post (nI n, tc, w, ct, fd, pt_f kd, pt_f aa, pt_f bb, pt_f l, tk, bd, kp, st)) :
    wpY_follow post (nI n, tc, w, ct, fd, pt_f kd, pt_f aa, pt_f bb, pt_f l0, tk, bd, kp, st) :=
  ⟨21, yc_close4 hn hn0 bk b0 h0 hE tc w ct fd tk bd kp st post h 20 0 1 l0 (by omega) (cl_I0 h0) (Or.inr ⟨rfl, pt_c_le _ _⟩)⟩
theorem cl_V1 {n : Nat} {l : Nat → Nat} (hV : cl_V n l) : cl_V (n + 1) (pt_u l n n) := by
  intro i hi
  by_cases e : i = n
  · subst e; rw [pt_us, pt_us]; exact ⟨by omega, rfl⟩
  · have hl := hV i (by omega)
    have : l i ≠ n := by omega
    rw [pt_un e, pt_un this]; exact hl
theorem yc_make3 {n : Nat} (hn : n ≤ 20) {kd aa bb l sy fi se : Nat → Nat} (bk : pt_B kd) (ba : pt_B aa) (bb' : pt_B bb) (bl : pt_B l) (hV : cl_V n l) (tc w ct fd : Int32) (tk bd kp st : Nat → Int32) {x y z : Nat} (hx : x < 100) (hy : y < 100) (hz : z < 100) (post : Int32 → SY → Prop) :
    ∀ d i, i + d = n → 
    (∀ r, pt_s (fun j => decide (kd j = x ∧ aa j = y ∧ bb j = z)) d i = some r → post (nI r) (nI n, tc, w, ct, fd, pt_f kd, pt_f aa, pt_f bb, pt_f l, tk, bd, kp, st)) →
    (pt_s (fun j => decide (kd j = x ∧ aa j = y ∧ bb j = z)) d i = none → n = 20 → post (-2) (nI n, tc, w, ct, fd, pt_f kd, pt_f aa, pt_f bb, pt_f l, tk, bd, kp, st)) →
    (pt_s (fun j => decide (kd j = x ∧ aa j = y ∧ bb j = z)) d i = none → n < 20 → cl_E (n + 1) sy fi se (pt_u kd n x) (pt_u aa n y) (pt_u bb n z) ∧ ∀ l', cl_I (n + 1) sy fi se (pt_u l n n) l' → cl_K (n + 1) sy fi se l' → post (nI n) (nI (n + 1), tc, w, ct, fd, pt_f (pt_u kd n x), pt_f (pt_u aa n y), pt_f (pt_u bb n z), pt_f l', tk, bd, kp, st)) →
    wY_make_3 post (nI x) (nI y) (nI z) (nI n) tc w ct fd (pt_f kd) (pt_f aa) (pt_f bb) (pt_f l) tk bd kp st (d + 1) (nI i) := by
  intro d
  induction d with
  | zero =>
    intro i hi h1 h2 h3
    refine br_t (nI_le (by omega) (by omega)) (pk_eq n 20 (fun e => h2 rfl e) (fun e => ?_))
    have hlt : n < 20 := by omega
    obtain ⟨hE, h3⟩ := h3 rfl hlt
    have hi : vp_in (nI n) 20 := vp_in_nI (by omega) (by omega)
    have hb : n < 2 ^ 31 := by omega
    refine ⟨hi, nm_r (pt_up kd x hb) ⟨hi, nm_r (pt_up aa y hb) ⟨hi, nm_r (pt_up bb z hb) ⟨hi, nm_r (pt_up l n hb) (nm_r (nI_1 n) (yc_close (by omega) (by omega) (pt_uB bk hx) (pt_uB bl (by omega)) (cl_V1 hV) hE tc w ct fd tk bd kp st _ ?_))⟩⟩⟩⟩
    intro l' hI hK
    have := h3 l' hI hK
    show post (nI (n + 1) - 1) _
    rw [nI_pred n]
    exact this
  | succ d ih =>
    intro i hi g1 g2 g3
    have h1 : i < 2 ^ 31 := by omega
    have b1 := bk i
    have b2 := ba i
    have b3 := bb' i
    have hin : vp_in (nI i) 20 := vp_in_nI (by omega) (by omega)
    have hskip : decide (kd i = x ∧ aa i = y ∧ bb i = z) = false → ∀ t, t = nI i + 1 → wY_make_3 post (nI x) (nI y) (nI z) (nI n) tc w ct fd (pt_f kd) (pt_f aa) (pt_f bb) (pt_f l) tk bd kp st (d + 1) t := by
      intro hp
      rw [pt_sf hp] at g1 g2 g3
      exact nm_r (nI_1 i) (ih (i + 1) (by omega) g1 g2 g3)
    refine br_f (nI_ge (by omega) (by omega)) ⟨hin, pk_eq (kd i) x (fun e1 => ⟨hin, pk_eq (aa i) y (fun e2 => ⟨hin, pk_eq (bb i) z (fun e3 => ?_) (fun e3 => hskip (decide_eq_false fun z => e3 z.2.2)) (pt_at bb h1) rfl⟩) (fun e2 => hskip (decide_eq_false fun z => e2 z.2.1)) (pt_at aa h1) rfl⟩) (fun e1 => hskip (decide_eq_false fun z => e1 z.1)) (pt_at kd h1) rfl⟩
    exact g1 i (pt_st (decide_eq_true ⟨e1, e2, e3⟩))
theorem yc_make {n : Nat} (hn : n ≤ 20) {kd aa bb l sy fi se : Nat → Nat} (bk : pt_B kd) (ba : pt_B aa) (bb' : pt_B bb) (bl : pt_B l) (hV : cl_V n l) (tc w ct fd : Int32) (tk bd kp st : Nat → Int32) {x y z : Nat} (hx : x < 100) (hy : y < 100) (hz : z < 100) (post : Int32 → SY → Prop)
    (h1 : ∀ r, pt_s (fun j => decide (kd j = x ∧ aa j = y ∧ bb j = z)) n 0 = some r → post (nI r) (nI n, tc, w, ct, fd, pt_f kd, pt_f aa, pt_f bb, pt_f l, tk, bd, kp, st))
    (h2 : pt_s (fun j => decide (kd j = x ∧ aa j = y ∧ bb j = z)) n 0 = none → n = 20 → post (-2) (nI n, tc, w, ct, fd, pt_f kd, pt_f aa, pt_f bb, pt_f l, tk, bd, kp, st))
    (h3 : pt_s (fun j => decide (kd j = x ∧ aa j = y ∧ bb j = z)) n 0 = none → n < 20 → cl_E (n + 1) sy fi se (pt_u kd n x) (pt_u aa n y) (pt_u bb n z) ∧ ∀ l', cl_I (n + 1) sy fi se (pt_u l n n) l' → cl_K (n + 1) sy fi se l' → post (nI n) (nI (n + 1), tc, w, ct, fd, pt_f (pt_u kd n x), pt_f (pt_u aa n y), pt_f (pt_u bb n z), pt_f l', tk, bd, kp, st)) :
    wpY_make post (nI n, tc, w, ct, fd, pt_f kd, pt_f aa, pt_f bb, pt_f l, tk, bd, kp, st) (nI x) (nI y) (nI z) :=
  ⟨n + 1, yc_make3 hn bk ba bb' bl hV tc w ct fd tk bd kp st hx hy hz post n 0 (by omega) h1 h2 h3⟩
theorem yc_count4 {n : Nat} (hn : n ≤ 20) {l : Nat → Nat} (bl : pt_B l) (tc w ct fd : Int32) (kd aa bb tk bd kp st : Nat → Int32) (post : Int32 → Prop) (h : post (nI (cl_n n l))) :
    ∀ d i, i + d = n → wY_classes_4 post (nI n) tc w ct fd kd aa bb (pt_f l) tk bd kp st (d + 1) (nI (cl_n i l)) (nI i) := by
  intro d
  induction d with
  | zero =>
    intro i hi
    have e : i = n := by omega
    subst e
    exact br_t (nI_le (by omega) (by omega)) h
  | succ d ih =>
    intro i hi
    have h1 : i < 2 ^ 31 := by omega
    have b1 := bl i
    have ih := ih (i + 1) (by omega)
    refine br_f (nI_ge (by omega) (by omega)) ⟨vp_in_nI (by omega) (by omega), pk_eq (l i) i (fun e => ?_) (fun e => ?_) (pt_at l h1) rfl⟩
    · rw [show cl_n (i + 1) l = cl_n i l + 1 from pt_ct (decide_eq_true e)] at ih
      exact nm_r (nI_1 (cl_n i l)) (nm_r (nI_1 i) ih)
    · rw [show cl_n (i + 1) l = cl_n i l from pt_cf (decide_eq_false e)] at ih
      exact nm_r (nI_1 i) ih
theorem yc_count {n : Nat} (hn : n ≤ 20) {l : Nat → Nat} (bl : pt_B l) (tc w ct fd : Int32) (kd aa bb tk bd kp st : Nat → Int32) (post : Int32 → Prop) (h : post (nI (cl_n n l))) :
    wpY_classes post (nI n, tc, w, ct, fd, kd, aa, bb, pt_f l, tk, bd, kp, st) := ⟨n + 1, yc_count4 hn bl tc w ct fd kd aa bb tk bd kp st post h n 0 (by omega)⟩
end
section
def wh_a (t : Nat) : Nat := if t = 21 then 2 else if t = 20 then 1 else 0
theorem wh_a0 {t : Nat} (h : t < 20) : wh_a t = 0 := by
  unfold wh_a
  rw [if_neg (by omega), if_neg (by omega)]
theorem wh_a2 (t : Nat) : wh_a t ≤ 2 := by
  unfold wh_a
  split
  · omega
  · split <;> omega
def wh_S (tk : Nat → Nat) : Nat → Int
  | 0 => 0
  | i + 1 => wh_S tk i + (wh_a (tk i) : Int) - 1
def wh_W (tk : Nat → Nat) (c : Nat) : Prop := (∀ i, i < c → 0 ≤ wh_S tk i) ∧ wh_S tk c = -1
def wh_H (tk : Nat → Nat) (c v : Nat) : Prop := ∃ j, j < c ∧ tk j = v
def wh_T (tk : Nat → Nat) (c : Nat) : Prop := ∀ j, j < c → tk j < 3 ∨ 10 ≤ tk j ∧ tk j < 16 ∨ tk j = 20 ∨ tk j = 21
theorem xw_arity {t : Nat} (ht : t < 100) (u : SX) (post : Int32 → Prop) (h : post (nI (wh_a t))) : wpX_arity post u (nI t) := by
  obtain ⟨_, _, _, _, _, _, _, _, _⟩ := u
  unfold wh_a at h
  refine pk_eq t 21 (fun e => ?_) (fun e => pk_eq t 20 (fun e2 => ?_) (fun e2 => ?_))
  · rw [if_pos e] at h; exact h
  · rw [if_neg e, if_pos e2] at h; exact h
  · rw [if_neg e, if_neg e2] at h; exact h
theorem wh_add {u a : Nat} (h : 0 < u) : nI u + (nI a - 1) = nI (u + a - 1) := by
  have e : nI u + (nI a - 1) = nI u + nI a - 1 := by grind
  rw [e, nI_add, show u + a = (u + a - 1) + 1 from by omega, nI_pred, Nat.add_sub_cancel]
theorem xw_whole4 {c : Nat} (hc : c ≤ 7) {tk : Nat → Nat} (bt : pt_B tk) (nc : Int32) (sy fi se la bd vl : Nat → Int32) (post : Int32 → Prop) (h1 : wh_W tk c → post 1) (h0 : ¬ wh_W tk c → post 0) :
    ∀ d i (u : Nat), i + d = c → (u : Int) = 1 + wh_S tk i → (∀ j, j < i → 0 ≤ wh_S tk j) → u ≤ i + 1 → wX_patternIsWhole_4 post nc (nI c) sy fi se la (pt_f tk) bd vl (d + 1) (nI u) (nI i) := by
  intro d
  induction d with
  | zero =>
    intro i u hi hu hj hb
    have e : i = c := by omega
    subst e
    exact br_t (nI_le (by omega) (by omega)) (pk_eq u 0 (fun e => h1 ⟨hj, by omega⟩) (fun e => h0 fun z => by have := z.2; omega))
  | succ d ih =>
    intro i u hi hu hj hb
    have h31 : i < 2 ^ 31 := by omega
    refine br_f (nI_ge (by omega) (by omega)) (pk_eq u 0 (fun e => h0 fun z => by have := z.1 i (by omega); omega) (fun e => ⟨vp_in_nI (by omega) (by omega), ?_⟩))
    rw [pt_at tk h31]
    have a2 := wh_a2 (tk i)
    refine xw_arity (bt i) _ _ (nm_r (wh_add (by omega)) (nm_r (nI_1 i) (ih (i + 1) _ (by omega) ?_ ?_ ?_)))
    · show _ = 1 + (wh_S tk i + (wh_a (tk i) : Int) - 1)
      omega
    · intro j hj'
      by_cases ej : j = i
      · subst ej; omega
      · exact hj j (by omega)
    · omega
theorem xw_whole {c : Nat} (hc : c ≤ 7) {tk : Nat → Nat} (bt : pt_B tk) (nc : Int32) (sy fi se la bd vl : Nat → Int32) (post : Int32 → Prop) (h1 : wh_W tk c → post 1) (h0 : ¬ wh_W tk c → post 0) :
    wpX_patternIsWhole post (nc, nI c, sy, fi, se, la, pt_f tk, bd, vl) :=
  ⟨c + 1, xw_whole4 hc bt nc sy fi se la bd vl post h1 h0 c 0 1 (by omega) rfl (fun j hj => absurd hj (Nat.not_lt_zero _)) (by omega)⟩
theorem yw_whole9 {c : Nat} (hc : c ≤ 7) {tk : Nat → Nat} (bt : pt_B tk) (hT : wh_T tk c) (nc w ct fd : Int32) (kd aa bb la bd kp st : Nat → Int32) (post : Int32 → Prop) (h1 : wh_W tk c → post 1) (h0 : ¬ wh_W tk c → post 0) :
    ∀ i (h : Nat), i ≤ c → (h : Int) = wh_S tk i - wh_S tk c → (∀ j, i ≤ j → j < c → 1 ≤ wh_S tk j - wh_S tk c) → h + i ≤ c → wY_whole_9 post nc (nI c) w ct fd kd aa bb la (pt_f tk) bd kp st (i + 1) (nI h) (nI i + (-1)) := by
  intro i
  induction i with
  | zero =>
    intro h hi hh hj hb
    have hh : (h : Int) = 0 - wh_S tk c := hh
    refine br_t (by decide +kernel) (pk_eq h 1 (fun e => h1 ⟨fun j hj' => ?_, by omega⟩) (fun e => h0 fun z => by have := z.2; omega))
    have := hj j (by omega) hj'
    omega
  | succ i ih =>
    intro h hi hh hj hb
    have h31 : i < 2 ^ 31 := by omega
    have hin : vp_in (nI i) 7 := vp_in_nI (by omega) (by omega)
    have hs : wh_S tk (i + 1) = wh_S tk i + (wh_a (tk i) : Int) - 1 := rfl
    have hbt := bt i
    have hat : pt_f tk (nI i).toNatClampNeg = nI (tk i) := pt_at tk h31
    have hno : h < wh_a (tk i) → post 0 := fun hl => h0 fun z => by
      have z1 := z.1 i (by omega)
      have z2 := z.2
      omega
    have hnext : ∀ h' : Nat, wh_a (tk i) ≤ h → (h' : Int) = h + 1 - wh_a (tk i) → wY_whole_9 post nc (nI c) w ct fd kd aa bb la (pt_f tk) bd kp st (i + 1) (nI h') (nI i + (-1)) := by
      intro h' hl hh'
      refine ih h' (by omega) (by omega) ?_ (by omega)
      intro j hj1 hj2
      by_cases ej : j = i
      · subst ej; omega
      · exact hj j (by omega) hj2
    rw [pk_m1 i]
    rcases (show tk i = 20 ∨ tk i = 21 ∨ tk i < 20 from by have := hT i (by omega); omega) with e | e | e
    · have ea : wh_a (tk i) = 1 := by rw [e]; rfl
      refine br_f (nI_pos h31) ⟨hin, pk_eq (tk i) 20 (fun _ => pk_lt h 1 (fun hl => hno (by omega)) (fun hl => ⟨hin, pk_eq (tk i) 21 (fun z => by omega) (fun _ => ⟨hin, pk_le 20 (tk i) (fun _ => ⟨hin, pk_eq (tk i) 21 (fun z => by omega) (fun _ => nm_e (hnext h (by omega) (by omega))) hat rfl⟩) (fun z => by omega) rfl hat⟩) hat rfl⟩)) (fun z => absurd e z) hat rfl⟩
    · have ea : wh_a (tk i) = 2 := by rw [e]; rfl
      refine br_f (nI_pos h31) ⟨hin, pk_eq (tk i) 20 (fun z => by omega) (fun _ => ⟨hin, pk_eq (tk i) 21 (fun _ => pk_le 2 h (fun hl => ⟨hin, pk_le 20 (tk i) (fun _ => ⟨hin, pk_eq (tk i) 21 (fun _ => nm_r (e' := nI (h - 1)) ?_ (nm_e (hnext (h - 1) (by omega) (by omega)))) (fun z => absurd e z) hat rfl⟩) (fun z => by omega) rfl hat⟩) (fun hl => hno (by omega))) (fun z => absurd e z) hat rfl⟩) hat rfl⟩
      obtain ⟨m, rfl⟩ : ∃ m, h = m + 1 := ⟨h - 1, by omega⟩
      exact pk_m1 m
    · have ea : wh_a (tk i) = 0 := wh_a0 e
      exact br_f (nI_pos h31) ⟨hin, pk_eq (tk i) 20 (fun z => by omega) (fun _ => ⟨hin, pk_eq (tk i) 21 (fun z => by omega) (fun _ => ⟨hin, pk_le 20 (tk i) (fun z => by omega) (fun _ => nm_r (nI_1 h) ⟨hin, pk_eq (tk i) 21 (fun z => by omega) (fun _ => nm_e (hnext (h + 1) (by omega) (by omega))) hat rfl⟩) rfl hat⟩) hat rfl⟩) hat rfl⟩
theorem wh_m1 (x : Int32) : x - 1 = x + (-1) := by grind
theorem yw_whole {c : Nat} (hc : c ≤ 7) {tk : Nat → Nat} (bt : pt_B tk) (hT : wh_T tk c) (nc w ct fd : Int32) (kd aa bb la bd kp st : Nat → Int32) (post : Int32 → Prop) (h1 : wh_W tk c → post 1) (h0 : ¬ wh_W tk c → post 0) :
    wpY_whole post (nc, nI c, w, ct, fd, kd, aa, bb, la, pt_f tk, bd, kp, st) :=
  nm_r (wh_m1 _) ⟨c + 1, yw_whole9 hc bt hT nc w ct fd kd aa bb la bd kp st post h1 h0 c 0 (by omega) (by omega) (fun j hj hj' => by omega) (by omega)⟩
theorem xw_has2 {c : Nat} (hc : c ≤ 7) {tk : Nat → Nat} (bt : pt_B tk) (nc : Int32) (sy fi se la bd vl : Nat → Int32) {v : Nat} (hv : v < 100) (post : Int32 → Prop) (h1 : wh_H tk c v → post 1) (h0 : ¬ wh_H tk c v → post 0) :
    ∀ d i, i + d = c → (∀ j, j < i → tk j ≠ v) → wX_patternHas_2 post (nI v) nc (nI c) sy fi se la (pt_f tk) bd vl (d + 1) (nI i) := by
  intro d
  induction d with
  | zero => intro i hi hj; exact br_t (nI_le (by omega) (by omega)) (h0 fun ⟨j, z1, z2⟩ => hj j (by omega) z2)
  | succ d ih =>
    intro i hi hj
    have b := bt i
    refine br_f (nI_ge (by omega) (by omega)) ⟨vp_in_nI (by omega) (by omega), pk_eq (tk i) v (fun e => h1 ⟨i, by omega, e⟩) (fun e => nm_r (nI_1 i) (ih (i + 1) (by omega) ?_)) (pt_at tk (by omega)) rfl⟩
    intro j hj'
    by_cases ej : j = i
    · subst ej; exact e
    · exact hj j (by omega)
theorem xw_has {c : Nat} (hc : c ≤ 7) {tk : Nat → Nat} (bt : pt_B tk) (nc : Int32) (sy fi se la bd vl : Nat → Int32) {v : Nat} (hv : v < 100) (post : Int32 → Prop) (h1 : wh_H tk c v → post 1) (h0 : ¬ wh_H tk c v → post 0) :
    wpX_patternHas post (nc, nI c, sy, fi, se, la, pt_f tk, bd, vl) (nI v) :=
  ⟨c + 1, xw_has2 hc bt nc sy fi se la bd vl hv post h1 h0 c 0 (by omega) (fun j hj => absurd hj (Nat.not_lt_zero _))⟩
theorem yw_has2 {c : Nat} (hc : c ≤ 7) {tk : Nat → Nat} (bt : pt_B tk) (nc w ct fd : Int32) (kd aa bb la bd kp st : Nat → Int32) {v : Nat} (hv : v < 100) (post : Int32 → Prop) (h1 : wh_H tk c v → post 1) (h0 : ¬ wh_H tk c v → post 0) :
    ∀ d i, i + d = c → (∀ j, j < i → tk j ≠ v) → wY_hasVariable_2 post (nI v) nc (nI c) w ct fd kd aa bb la (pt_f tk) bd kp st (d + 1) (nI i) := by
  intro d
  induction d with
  | zero => intro i hi hj; exact br_t (nI_le (by omega) (by omega)) (h0 fun ⟨j, z1, z2⟩ => hj j (by omega) z2)
  | succ d ih =>
    intro i hi hj
    have b := bt i
    refine br_f (nI_ge (by omega) (by omega)) ⟨vp_in_nI (by omega) (by omega), pk_eq (tk i) v (fun e => h1 ⟨i, by omega, e⟩) (fun e => nm_r (nI_1 i) (ih (i + 1) (by omega) ?_)) (pt_at tk (by omega)) rfl⟩
    intro j hj'
    by_cases ej : j = i
    · subst ej; exact e
    · exact hj j (by omega)
theorem yw_has {c : Nat} (hc : c ≤ 7) {tk : Nat → Nat} (bt : pt_B tk) (nc w ct fd : Int32) (kd aa bb la bd kp st : Nat → Int32) {v : Nat} (hv : v < 100) (post : Int32 → Prop) (h1 : wh_H tk c v → post 1) (h0 : ¬ wh_H tk c v → post 0) :
    wpY_hasVariable post (nc, nI c, w, ct, fd, kd, aa, bb, la, pt_f tk, bd, kp, st) (nI v) :=
  ⟨c + 1, yw_has2 hc bt nc w ct fd kd aa bb la bd kp st hv post h1 h0 c 0 (by omega) (fun j hj => absurd hj (Nat.not_lt_zero _))⟩
end
section
def pt_G (n c : Nat) (sy fi se l tk kd aa bb : Nat → Nat) : Prop :=
  n ≤ 20 ∧ c ≤ 7 ∧ (pt_B sy ∧ pt_B fi ∧ pt_B se ∧ pt_B l ∧ pt_B tk ∧ pt_B kd ∧ pt_B aa ∧ pt_B bb) ∧ cl_E n sy fi se kd aa bb ∧ cl_V n l ∧ cl_K n sy fi se l ∧ wh_T tk c
def ev_f (n : Nat) (sy fi se l : Nat → Nat) (t a b : Nat) : Option Nat := (pt_s (cl_p sy fi se l t a b) n 0).map l
def ev_t (cf : Nat → Nat → Nat → Option Nat) (dg : Nat → Nat) (t : Nat) (st : List (Option Nat)) : List (Option Nat) :=
  if t < 3 then some (dg t) :: st
  else if t < 20 then cf t 0 0 :: st
  else if t = 20 then (match st with | x :: r => (x.bind fun a => cf 20 a 0) :: r | [] => [])
  else (match st with | x :: y :: r => (x.bind fun a => y.bind fun b => cf 21 a b) :: r | _ => [])
def ev_r (cf : Nat → Nat → Nat → Option Nat) (dg tk : Nat → Nat) : Nat → List (Option Nat) → List (Option Nat)
  | 0, st => st
  | i + 1, st => ev_r cf dg tk i (ev_t cf dg (tk i) st)
def ev_h : List (Option Nat) → Option Nat
  | x :: _ => x
  | [] => none
def ev_k (a : Nat → Int32) : List (Option Nat) → Prop
  | [] => True
  | x :: r => a r.length = pt_o x ∧ ev_k a r
def ev_b (st : List (Option Nat)) : Prop := ∀ v, some v ∈ st → v < 100
theorem ev_t1 {cf : Nat → Nat → Nat → Option Nat} {dg : Nat → Nat} {t : Nat} {st : List (Option Nat)} (h : t < 3) : ev_t cf dg t st = some (dg t) :: st := if_pos h
theorem ev_t2 {cf : Nat → Nat → Nat → Option Nat} {dg : Nat → Nat} {t : Nat} {st : List (Option Nat)} (h : ¬ t < 3) (h2 : t < 20) : ev_t cf dg t st = cf t 0 0 :: st := by
  unfold ev_t
  rw [if_neg h, if_pos h2]
theorem ev_t3 {cf : Nat → Nat → Nat → Option Nat} {dg : Nat → Nat} {x : Option Nat} {st : List (Option Nat)} : ev_t cf dg 20 (x :: st) = (x.bind fun a => cf 20 a 0) :: st := rfl
theorem ev_t4 {cf : Nat → Nat → Nat → Option Nat} {dg : Nat → Nat} {x y : Option Nat} {st : List (Option Nat)} : ev_t cf dg 21 (x :: y :: st) = (x.bind fun a => y.bind fun b => cf 21 a b) :: st := rfl
theorem ev_ku {a : Nat → Int32} {k : Nat} {v : Int32} : ∀ st : List (Option Nat), st.length ≤ k → ev_k a st → ev_k (upd a k v) st := by
  intro st
  induction st with
  | nil => intro _ _; exact True.intro
  | cons x r ih =>
    intro hl h
    have hl' : r.length + 1 ≤ k := hl
    exact ⟨by rw [pk_un (by omega)]; exact h.1, ih (by omega) h.2⟩
theorem ev_kp {a : Nat → Int32} {st : List (Option Nat)} {x : Option Nat} (h : ev_k a st) : ev_k (upd a st.length (pt_o x)) (x :: st) := ⟨pk_us, ev_ku st (Nat.le_refl _) h⟩
theorem ev_fb {n : Nat} {sy fi se l : Nat → Nat} (bl : pt_B l) {t a b v : Nat} (h : ev_f n sy fi se l t a b = some v) : v < 100 := by
  unfold ev_f at h
  cases hs : pt_s (cl_p sy fi se l t a b) n 0 with
  | none => rw [hs] at h; cases h
  | some r => rw [hs] at h; cases h; exact bl r
theorem ev_bb {n : Nat} {sy fi se l : Nat → Nat} (bl : pt_B l) {x y : Option Nat} {v : Nat} (h : (x.bind fun a => y.bind fun b => ev_f n sy fi se l 21 a b) = some v) : v < 100 := by
  cases x with
  | none => cases h
  | some a =>
    cases y with
    | none => cases h
    | some b => exact ev_fb bl h
theorem ev_b1 {n : Nat} {sy fi se l : Nat → Nat} (bl : pt_B l) {x : Option Nat} {v : Nat} (h : (x.bind fun a => ev_f n sy fi se l 20 a 0) = some v) : v < 100 := by
  cases x with
  | none => cases h
  | some a => exact ev_fb bl h
theorem ev_bc {x : Option Nat} {st : List (Option Nat)} (h : ∀ v, x = some v → v < 100) (hs : ev_b st) : ev_b (x :: st) := by
  intro v hv
  rcases List.mem_cons.mp hv with e | e
  · exact h v e.symm
  · exact hs v e
theorem ev_bt {x : Option Nat} {st : List (Option Nat)} (h : ev_b (x :: st)) : ev_b st := fun v hv => h v (List.mem_cons_of_mem _ hv)
theorem ev_bh {x : Nat} {st : List (Option Nat)} (h : ev_b (some x :: st)) : x < 100 := h x List.mem_cons_self
theorem ev_nt {n : Nat} {sy fi se l dg : Nat → Nat} {tk : Nat → Nat} {c i : Nat} (hT : wh_T tk c) (hi : i < c) {st : List (Option Nat)} (hl : wh_a (tk i) ≤ st.length) (h : none ∈ st) :
    none ∈ ev_t (ev_f n sy fi se l) dg (tk i) st := by
  rcases (show tk i < 3 ∨ ¬ tk i < 3 ∧ tk i < 20 ∨ tk i = 20 ∨ tk i = 21 from by have := hT i hi; omega) with e | e | e | e
  · rw [ev_t1 e]; exact List.mem_cons_of_mem _ h
  · rw [ev_t2 e.1 e.2]; exact List.mem_cons_of_mem _ h
  · rw [e] at hl ⊢
    cases st with
    | nil => cases h
    | cons x r =>
      rw [ev_t3]
      rcases List.mem_cons.mp h with z | z
      · rw [← z]; exact List.mem_cons_self
      · exact List.mem_cons_of_mem _ z
  · rw [e] at hl ⊢
    cases st with
    | nil => cases h
    | cons x r =>
      cases r with
      | nil => exact absurd (show 2 ≤ 1 from hl) (by decide)
      | cons y r =>
        rw [ev_t4]
        rcases List.mem_cons.mp h with z | z
        · rw [← z]; exact List.mem_cons_self
        · rcases List.mem_cons.mp z with z | z
          · rw [← z]
            cases x with
            | none => exact List.mem_cons_self
            | some a => exact List.mem_cons_self
          · exact List.mem_cons_of_mem _ z
theorem ev_lt {cf : Nat → Nat → Nat → Option Nat} {dg tk : Nat → Nat} {c i : Nat} (hT : wh_T tk c) (hi : i < c) {st : List (Option Nat)} (hl : wh_a (tk i) ≤ st.length) : (ev_t cf dg (tk i) st).length + wh_a (tk i) = st.length + 1 := by
  rcases (show tk i < 3 ∨ ¬ tk i < 3 ∧ tk i < 20 ∨ tk i = 20 ∨ tk i = 21 from by have := hT i hi; omega) with e | e | e | e
  · rw [ev_t1 e, wh_a0 (by omega)]; rfl
  · rw [ev_t2 e.1 e.2, wh_a0 (by omega)]; rfl
  · rw [e] at hl ⊢
    cases st with
    | nil => exact absurd hl (by decide)
    | cons x r => rfl
  · rw [e] at hl ⊢
    cases st with
    | nil => exact absurd hl (by decide)
    | cons x r =>
      cases r with
      | nil => exact absurd (show 2 ≤ 1 from hl) (by decide)
      | cons y r => rfl
theorem ev_wa {tk : Nat → Nat} {c i : Nat} (hW : wh_W tk c) (hi : i < c) {m : Nat} (h : (m : Int) = wh_S tk (i + 1) - wh_S tk c) : wh_a (tk i) ≤ m := by
  have a := hW.1 i hi
  have b := hW.2
  have c : wh_S tk (i + 1) = wh_S tk i + (wh_a (tk i) : Int) - 1 := rfl
  omega
theorem ev_wl {cf : Nat → Nat → Nat → Option Nat} {dg tk : Nat → Nat} {c i : Nat} (hT : wh_T tk c) (hW : wh_W tk c) (hi : i < c) {st : List (Option Nat)} (h : (st.length : Int) = wh_S tk (i + 1) - wh_S tk c) : ((ev_t cf dg (tk i) st).length : Int) = wh_S tk i - wh_S tk c := by
  have a := ev_lt (cf := cf) (dg := dg) hT hi (ev_wa hW hi h)
  have c : wh_S tk (i + 1) = wh_S tk i + (wh_a (tk i) : Int) - 1 := rfl
  omega
theorem ev_no {n : Nat} {sy fi se l dg : Nat → Nat} {tk : Nat → Nat} {c : Nat} (hT : wh_T tk c) (hW : wh_W tk c) : ∀ i (st : List (Option Nat)), i ≤ c → (st.length : Int) = wh_S tk i - wh_S tk c → none ∈ st → ev_h (ev_r (ev_f n sy fi se l) dg tk i st) = none := by
  intro i
  induction i with
  | zero =>
    intro st _ hl h
    have hl : (st.length : Int) = 0 - wh_S tk c := hl
    have := hW.2
    cases st with
    | nil => rfl
    | cons x r =>
      cases r with
      | nil =>
        rcases List.mem_cons.mp h with z | z
        · rw [← z]; rfl
        · cases z
      | cons y r => simp only [List.length_cons] at hl; omega
  | succ i ih =>
    intro st hi hl h
    exact ih _ (by omega) (ev_wl hT hW (by omega) hl) (ev_nt hT (by omega) (ev_wa hW (by omega) hl) h)
theorem xv_isVar {t : Nat} (ht : t < 100) (u : SX) (post : Int32 → Prop) (h1 : t < 3 → post 1) (h0 : ¬ t < 3 → post 0) : wpX_isVariable post u (nI t) := by
  obtain ⟨_, _, _, _, _, _, _, _, _⟩ := u
  exact br_f (nI_pos (by omega)) (pk_le 3 t (fun e => h0 (by omega)) (fun e => h1 e))
theorem xv_108 (post : Int32 → SX → Prop) (J19 : Int32 → Int32 → (Nat → Int32) → (Nat → Int32) → (Nat → Int32) → (Nat → Int32) → (Nat → Int32) → (Nat → Int32) → (Nat → Int32) → Prop) {ht k : Nat} (x3 : Int32) (hk : k ≤ ht) (hb : ht - k < 7) {z : Option Nat} (hz : ∀ v, z = some v → v < 100) (nc tc : Int32) (sy fi se la tk bd vl : Nat → Int32)
    (hN : z = none → post (-1) (nc, tc, sy, fi, se, la, tk, bd, vl)) (hS : z ≠ none → J19 (nI (ht - k + 1)) (x3 + (-1)) sy fi se la tk bd (upd vl (ht - k) (pt_o z))) :
    wX_valueUnder_108 post J19 (nI ht) x3 (nI k) (pt_o z) nc tc sy fi se la tk bd vl := by
  cases z with
  | none => exact br_t rfl (hN rfl)
  | some v =>
    have := hz v rfl
    refine br_f (pt_m1 (by omega)) (nm_r (pk_sub hk) ⟨vp_in_nI hb (by omega), nm_r (e' := upd vl (ht - k) (nI v)) ?_ (nm_r (nI_1 _) (nm_e (hS (fun z => nomatch z))))⟩)
    rw [nI_clamp (by omega)]; rfl
theorem xv_19 {n c : Nat} {sy fi se l tk kd aa bb dg : Nat → Nat} (G : pt_G n c sy fi se l tk kd aa bb) (hW : wh_W tk c) (hdg : ∀ v, dg v < 100) {bd : Nat → Int32} (hbd : ∀ v, v < 3 → bd v = nI (dg v)) (post : Int32 → SX → Prop) :
    ∀ i (st : List (Option Nat)) (vl : Nat → Int32), i ≤ c → (st.length : Int) = wh_S tk i - wh_S tk c → st.length + i ≤ c → ev_k vl st → ev_b st → none ∉ st →
      (∀ vl', post (pt_o (ev_h (ev_r (ev_f n sy fi se l) dg tk i st))) (nI n, nI c, pt_f sy, pt_f fi, pt_f se, pt_f l, pt_f tk, bd, vl')) →
      wX_valueUnder_19 post (nI n) (nI c) (i + 1) (nI st.length) (nI i + (-1)) (pt_f sy) (pt_f fi) (pt_f se) (pt_f l) (pt_f tk) bd vl := by
  obtain ⟨hn, hc, ⟨bs, bf, be, bl, bt, bk, ba, bbb⟩, hE, hV, hK, hT⟩ := G
  intro i
  induction i with
  | zero =>
    intro st vl _ hl _ hk _ _ h
    have hl : (st.length : Int) = 0 - wh_S tk c := hl
    have hw2 := hW.2
    refine br_t (by decide +kernel) ?_
    cases st with
    | nil => simp only [List.length_nil] at hl; omega
    | cons x r =>
      cases r with
      | nil =>
        have h := h vl
        show post (vl 0) _
        rw [show vl 0 = pt_o x from hk.1]
        exact h
      | cons y r => simp only [List.length_cons] at hl; omega
  | succ i ih =>
    intro st vl hi hl hlc hk hb hno h
    have h31 : i < 2 ^ 31 := by omega
    have hat : pt_f tk (nI i).toNatClampNeg = nI (tk i) := pt_at tk h31
    have hwa := ev_wa hW (show i < c by omega) hl
    have hwl := ev_wl (cf := ev_f n sy fi se l) (dg := dg) hT hW (show i < c by omega) hl
    have hlt := ev_lt (cf := ev_f n sy fi se l) (dg := dg) hT (show i < c by omega) hwa
    have hbt := bt i
    have fin : ∀ (z : Option Nat) (r : List (Option Nat)) (k : Nat), k + r.length = st.length → ev_t (ev_f n sy fi se l) dg (tk i) st = z :: r → (∀ v, z = some v → v < 100) → ev_k vl r → ev_b r → none ∉ r →
        wX_valueUnder_108 post (wX_valueUnder_19 post (nI n) (nI c) (i + 1)) (nI st.length) (nI i) (nI k) (pt_o z) (nI n) (nI c) (pt_f sy) (pt_f fi) (pt_f se) (pt_f l) (pt_f tk) bd vl := by
      intro z r k hkr ht hz hkr2 hbr hnr
      have er : st.length - k = r.length := by omega
      have h : ∀ vl', post (pt_o (ev_h (ev_r (ev_f n sy fi se l) dg tk i (ev_t (ev_f n sy fi se l) dg (tk i) st)))) (nI n, nI c, pt_f sy, pt_f fi, pt_f se, pt_f l, pt_f tk, bd, vl') := h
      rw [ht] at h hwl hlt
      have hlt' : (r.length + 1) + wh_a (tk i) = st.length + 1 := hlt
      refine xv_108 post _ (nI i) (by omega) (by omega) hz _ _ _ _ _ _ _ _ _ (fun e => ?_) (fun e => ?_)
      · have h := h vl
        rw [ev_no hT hW i _ (by omega) hwl (by rw [e]; exact List.mem_cons_self)] at h
        exact h
      · rw [er]
        refine ih (z :: r) _ (by omega) hwl ?_ (ev_kp hkr2) (ev_bc hz hbr) ?_ h
        · show r.length + 1 + i ≤ c
          omega
        · intro hm
          rcases List.mem_cons.mp hm with q | q
          · exact e q.symm
          · exact hnr q
    have cls : ∀ (a b k : Nat) (r : List (Option Nat)), ¬ tk i < 3 → a < 100 → b < 100 → k + r.length = st.length → ev_t (ev_f n sy fi se l) dg (tk i) st = ev_f n sy fi se l (tk i) a b :: r → ev_k vl r → ev_b r → none ∉ r →
        wX_valueUnder_77 post (wX_valueUnder_19 post (nI n) (nI c) (i + 1)) (nI st.length) (nI i) (nI (tk i)) (nI k) (nI a) (nI b) (nI n) (nI c) (pt_f sy) (pt_f fi) (pt_f se) (pt_f l) (pt_f tk) bd vl := by
      intro a b k r h3 ha hb' hkr ht h1 h2 h4
      exact xv_isVar hbt _ _ (fun e => absurd e h3) (fun _ => br_t rfl (xc_classOf hn bs bl (cl_Ec hE) _ _ _ _ hbt ha hb' _ (fin (ev_f n sy fi se l (tk i) a b) r k hkr ht (fun v hv => ev_fb bl hv) h1 h2 h4)))
    rw [pk_m1 i]
    refine br_f (nI_pos h31) ⟨vp_in_nI (by omega) (by omega), nm_r hat (xw_arity hbt _ _ ?_)⟩
    rcases (show tk i < 3 ∨ ¬ tk i < 3 ∧ tk i < 20 ∨ tk i = 20 ∨ tk i = 21 from by have := hT i (by omega); omega) with e | e | e | e
    · rw [wh_a0 (by omega)]
      refine br_t (by decide +kernel) (br_f (by decide +kernel) ?_)
      refine xv_isVar hbt _ _ (fun _ => br_f (by decide) ⟨vp_in_nI e (by omega), ?_⟩) (fun z => absurd e z)
      rw [nI_clamp (by omega), hbd _ e]
      exact fin (some (dg (tk i))) st 0 (by omega) (ev_t1 e) (fun v hv => by cases hv; exact hdg _) hk hb hno
    · rw [wh_a0 (by omega)]
      refine br_t (by decide +kernel) (br_f (by decide +kernel) ?_)
      exact cls 0 0 0 st e.1 (by omega) (by omega) (by omega) (ev_t2 e.1 e.2) hk hb hno
    · rw [e] at hwa
      rw [show wh_a (tk i) = 1 from by rw [e]; rfl]
      cases st with
      | nil => exact absurd hwa (by decide)
      | cons x r =>
        cases x with
        | none => exact absurd List.mem_cons_self hno
        | some a =>
          have hlc' : r.length + 1 + (i + 1) ≤ c := hlc
          refine br_f (by decide +kernel) ⟨?_, br_f (by decide +kernel) ?_⟩
          · rw [show nI (some a :: r).length - 1 = nI r.length from nI_pred _]
            exact vp_in_nI (by omega) (by omega)
          · rw [show nI (some a :: r).length - 1 = nI r.length from nI_pred _, nI_clamp (by omega), show vl r.length = nI a from hk.1]
            exact cls a 0 1 r (by omega) (ev_bh hb) (by omega) (Nat.add_comm _ _) (by rw [e]; rfl) hk.2 (ev_bt hb) (fun z => hno (List.mem_cons_of_mem _ z))
    · rw [e] at hwa
      rw [show wh_a (tk i) = 2 from by rw [e]; rfl]
      cases st with
      | nil => exact absurd hwa (by decide)
      | cons x r =>
        cases r with
        | nil => exact absurd (show 2 ≤ 1 from hwa) (by decide)
        | cons y r =>
          cases x with
          | none => exact absurd List.mem_cons_self hno
          | some a =>
            cases y with
            | none => exact absurd (List.mem_cons_of_mem _ List.mem_cons_self) hno
            | some b =>
              have hlc' : r.length + 1 + 1 + (i + 1) ≤ c := hlc
              have e1 : nI (some a :: some b :: r).length - 1 = nI (r.length + 1) := nI_pred _
              have e2 : nI (some a :: some b :: r).length - 2 = nI r.length := pk_sub (a := r.length + 1 + 1) (b := 2) (by omega)
              refine br_f (by decide +kernel) ⟨?_, br_t (by decide +kernel) ⟨?_, ?_⟩⟩
              · rw [e1]; exact vp_in_nI (by omega) (by omega)
              · rw [e2]; exact vp_in_nI (by omega) (by omega)
              · rw [e1, e2, nI_clamp (by omega), nI_clamp (by omega), show vl (r.length + 1) = nI a from hk.1, show vl r.length = nI b from hk.2.1]
                exact cls a b 2 r (by omega) (ev_bh hb) (ev_bh (ev_bt hb)) (Nat.add_comm _ _) (by rw [e]; rfl) hk.2.2 (ev_bt (ev_bt hb)) (fun z => hno (List.mem_cons_of_mem _ (List.mem_cons_of_mem _ z)))
end
section
def ev_d (s v : Nat) : Nat := if v = 0 then s / 400 else if v = 1 then s / 20 % 20 else s % 20
def ev_T (n c : Nat) (l tk : Nat → Nat) (v k : Nat) : Prop := wh_H tk c v ∧ k < n ∧ l k = k ∨ ¬ wh_H tk c v ∧ k = 0
def ev_P (n c : Nat) (l tk : Nat → Nat) (s : Nat) : Prop := ∀ v, v < 3 → ev_T n c l tk v (ev_d s v)
noncomputable def ev_V (n c : Nat) (sy fi se l tk : Nat → Nat) (s : Nat) : Option Nat := @ite _ (ev_P n c l tk s) (Classical.propDecidable _) (ev_h (ev_r (ev_f n sy fi se l) (ev_d s) tk c [])) none
def ev_D (bd : Nat → Int32) (s : Nat) : Nat → Int32 := upd (upd (upd bd 0 (nI (s / 400))) 1 (nI (s / 20 % 20))) 2 (nI (s % 20))
theorem ev_Vt {n c : Nat} {sy fi se l tk : Nat → Nat} {s : Nat} (h : ev_P n c l tk s) : ev_V n c sy fi se l tk s = ev_h (ev_r (ev_f n sy fi se l) (ev_d s) tk c []) := if_pos h
theorem ev_Vf {n c : Nat} {sy fi se l tk : Nat → Nat} {s : Nat} (h : ¬ ev_P n c l tk s) : ev_V n c sy fi se l tk s = none := if_neg h
theorem ev_Dv {bd : Nat → Int32} {s v : Nat} (h : v < 3) : ev_D bd s v = nI (ev_d s v) := by
  rcases (show v = 0 ∨ v = 1 ∨ v = 2 from by omega) with e | e | e <;> subst e <;> rfl
theorem ev_d20 {s : Nat} (h : s < 8000) (v : Nat) : ev_d s v < 20 := by
  unfold ev_d
  split
  · omega
  · split <;> omega
theorem ev_bs {n : Nat} {sy fi se l dg : Nat → Nat} (bl : pt_B l) (hdg : ∀ v, dg v < 100) {t : Nat} {st : List (Option Nat)} (h : ev_b st) : ev_b (ev_t (ev_f n sy fi se l) dg t st) := by
  unfold ev_t
  split
  · exact ev_bc (fun v hv => by cases hv; exact hdg _) h
  · split
    · exact ev_bc (fun v hv => ev_fb bl hv) h
    · split
      · cases st with
        | nil => exact h
        | cons x r => exact ev_bc (fun v hv => ev_b1 bl hv) (ev_bt h)
      · cases st with
        | nil => exact h
        | cons x r =>
          cases r with
          | nil => exact ev_bt h
          | cons y r => exact ev_bc (fun v hv => ev_bb bl hv) (ev_bt (ev_bt h))
theorem ev_br {n : Nat} {sy fi se l dg tk : Nat → Nat} (bl : pt_B l) (hdg : ∀ v, dg v < 100) : ∀ i (st : List (Option Nat)), ev_b st → ev_b (ev_r (ev_f n sy fi se l) dg tk i st) := by
  intro i
  induction i with
  | zero => intro st h; exact h
  | succ i ih => intro st h; exact ih _ (ev_bs bl hdg h)
theorem ev_hb {st : List (Option Nat)} (h : ev_b st) {v : Nat} (e : ev_h st = some v) : v < 100 := by
  cases st with
  | nil => cases e
  | cons x r =>
    have e : x = some v := e
    exact h v (by rw [e]; exact List.mem_cons_self)
theorem ev_b0 : ev_b [] := fun _ h => nomatch h
theorem ev_Vb {n c : Nat} {sy fi se l tk : Nat → Nat} (bl : pt_B l) {s : Nat} (hs : s < 8000) {v : Nat} (e : ev_V n c sy fi se l tk s = some v) : v < 100 := by
  by_cases h : ev_P n c l tk s
  · rw [ev_Vt h] at e
    exact ev_hb (ev_br bl (fun v => Nat.lt_trans (ev_d20 hs v) (by omega)) c [] ev_b0) e
  · rw [ev_Vf h] at e; cases e
theorem xv_isNode {n k : Nat} (hn : n ≤ 20) (hk : k < 2 ^ 31) (tc : Int32) (sy fi se la tk bd vl : Nat → Int32) (post : Int32 → Prop) (h1 : k < n → post 1) (h0 : ¬ k < n → post 0) : wpX_isNode post (nI n, tc, sy, fi, se, la, tk, bd, vl) (nI k) :=
  br_f (nI_pos hk) (pk_le n k (fun e => h0 (by omega)) (fun e => h1 e))
theorem xv_may {n c : Nat} (hn : n ≤ 20) (hc : c ≤ 7) {l tk : Nat → Nat} (bl : pt_B l) (bt : pt_B tk) (sy fi se bd vl : Nat → Int32) {v k : Nat} (hv : v < 100) (hk : k < 100) (post : Int32 → Prop) (h1 : ev_T n c l tk v k → post 1) (h0 : ¬ ev_T n c l tk v k → post 0) :
    wpX_mayBind post (nI n, nI c, sy, fi, se, pt_f l, pt_f tk, bd, vl) (nI v) (nI k) := by
  have b := bl k
  refine xw_has hc bt _ _ _ _ _ _ _ hv _ (fun hH => br_f (by decide) (xv_isNode hn (by omega) _ _ _ _ _ _ _ _ _ (fun hk' => br_f (by decide) ⟨vp_in_nI (by omega) (by omega), pk_eq (l k) k (fun e => h1 (Or.inl ⟨hH, hk', e⟩)) (fun e => h0 ?_) (pt_at l (by omega)) rfl⟩) (fun hk' => br_t rfl (h0 ?_)))) (fun hH => br_t rfl (pk_eq k 0 (fun e => h1 (Or.inr ⟨hH, e⟩)) (fun e => h0 ?_)))
  · exact fun z => z.elim (fun z => e z.2.2) (fun z => z.1 hH)
  · exact fun z => z.elim (fun z => hk' z.2.1) (fun z => z.1 hH)
  · exact fun z => z.elim (fun z => hH z.1) (fun z => e z.2)
theorem xv_bind36 {n c : Nat} (hn : n ≤ 20) (hc : c ≤ 7) {l tk dg : Nat → Nat} (bl : pt_B l) (bt : pt_B tk) (hdg : ∀ v, dg v < 100) (sy fi se bd vl : Nat → Int32) (hbd : ∀ v, v < 3 → bd v = nI (dg v)) (post : Int32 → SX → Prop)
    (h1 : (∀ v, v < 3 → ev_T n c l tk v (dg v)) → post 1 (nI n, nI c, sy, fi, se, pt_f l, pt_f tk, bd, vl)) (h0 : ¬ (∀ v, v < 3 → ev_T n c l tk v (dg v)) → post 0 (nI n, nI c, sy, fi, se, pt_f l, pt_f tk, bd, vl)) :
    ∀ d i, i + d = 3 → (∀ v, v < i → ev_T n c l tk v (dg v)) → wX_bindVariables_36 post (nI n) (nI c) sy fi se (pt_f l) (pt_f tk) bd vl (d + 1) (nI i) := by
  intro d
  induction d with
  | zero =>
    intro i hi hj
    have e : i = 3 := by omega
    subst e
    exact br_t (nI_le (a := 3) (by omega) (by omega)) (h1 hj)
  | succ d ih =>
    intro i hi hj
    refine br_f (nI_ge (b := 3) (by omega) (by omega)) ⟨vp_in_nI (by omega) (by omega), ?_⟩
    rw [nI_clamp (by omega), hbd i (by omega)]
    refine xv_may hn hc bl bt _ _ _ _ _ (by omega) (hdg i) _ (fun e => br_f (by decide) (nm_r (nI_1 i) (ih (i + 1) (by omega) ?_))) (fun e => br_t rfl (h0 fun z => e (z i (by omega))))
    intro v hv
    by_cases ev : v = i
    · subst ev; exact e
    · exact hj v (by omega)
theorem xv_bind {n c : Nat} (hn : n ≤ 20) (hc : c ≤ 7) {l tk : Nat → Nat} (bl : pt_B l) (bt : pt_B tk) (sy fi se bd vl : Nat → Int32) {s : Nat} (hs : s < 8000) (post : Int32 → SX → Prop)
    (h1 : ev_P n c l tk s → post 1 (nI n, nI c, sy, fi, se, pt_f l, pt_f tk, ev_D bd s, vl)) (h0 : ¬ ev_P n c l tk s → post 0 (nI n, nI c, sy, fi, se, pt_f l, pt_f tk, ev_D bd s, vl)) :
    wpX_bindVariables post (nI n, nI c, sy, fi, se, pt_f l, pt_f tk, bd, vl) (nI s) := by
  have e0 : nI s / 400 = nI (s / 400) := pk_div (d := 400) (by omega) (by omega) (by omega)
  have e1 : nI s / 20 = nI (s / 20) := pk_div (d := 20) (by omega) (by omega) (by omega)
  have e2 : nI (s / 20) - nI (s / 20) / 20 * 20 = nI (s / 20 % 20) := pk_rem (d := 20) (by omega) (by omega) (by omega)
  have e3 : nI s - nI s / 20 * 20 = nI (s % 20) := pk_rem (d := 20) (by omega) (by omega) (by omega)
  refine ⟨by decide, nm_r (congrArg (upd bd 0) e0) ⟨by decide, by decide, nm_r (e' := upd (upd bd 0 (nI (s / 400))) 1 (nI (s / 20 % 20))) (by rw [e1, e2]) ⟨by decide, nm_r (e' := ev_D bd s) (by rw [e3]; rfl) ⟨4, xv_bind36 hn hc bl bt (fun v => Nat.lt_trans (ev_d20 hs v) (by omega)) _ _ _ _ _ (fun v hv => ev_Dv hv) post h1 h0 3 0 (by omega) (fun v hv => absurd hv (Nat.not_lt_zero _))⟩⟩⟩⟩
theorem xv_value {n c : Nat} {sy fi se l tk kd aa bb : Nat → Nat} (G : pt_G n c sy fi se l tk kd aa bb) (hW : wh_W tk c) (bd vl : Nat → Int32) {s : Nat} (hs : s < 8000) (post : Int32 → SX → Prop)
    (h : ∀ vl', post (pt_o (ev_V n c sy fi se l tk s)) (nI n, nI c, pt_f sy, pt_f fi, pt_f se, pt_f l, pt_f tk, ev_D bd s, vl')) :
    wpX_valueUnder post (nI n, nI c, pt_f sy, pt_f fi, pt_f se, pt_f l, pt_f tk, bd, vl) (nI s) := by
  have G' := G
  obtain ⟨hn, hc, ⟨bs, bf, be, bl, bt, bk, ba, bbb⟩, hE, hV, hK, hT⟩ := G'
  refine xv_bind hn hc bl bt _ _ _ _ _ hs _ (fun hP => br_f (by decide) (nm_r (wh_m1 _) ⟨c + 1, xv_19 G hW (dg := ev_d s) (fun v => Nat.lt_trans (ev_d20 hs v) (by omega)) (fun v hv => ev_Dv hv) post c [] vl (by omega) ?_ ?_ True.intro ev_b0 (fun z => nomatch z) ?_⟩)) (fun hP => br_t rfl ?_)
  · show (0 : Int) = _
    omega
  · show 0 + c ≤ c
    omega
  · rw [ev_Vt hP] at h; exact h
  · rw [ev_Vf hP] at h; exact h vl
noncomputable def ev_q (n c : Nat) (sy fi se l tk : Nat → Nat) : Nat → Bool := fun s => (ev_V n c sy fi se l tk s).isSome
noncomputable def ev_qa (n c : Nat) (sy fi se l tk : Nat → Nat) (a : Nat) : Nat → Bool := fun s => decide (ev_V n c sy fi se l tk s = some a)
theorem xm_14 {n c : Nat} {sy fi se l tk kd aa bb : Nat → Nat} (G : pt_G n c sy fi se l tk kd aa bb) (hW : wh_W tk c) (post : Int32 → SX → Prop)
    (h : ∀ bd vl, post (nI (pt_c (ev_q n c sy fi se l tk) 8000)) (nI n, nI c, pt_f sy, pt_f fi, pt_f se, pt_f l, pt_f tk, bd, vl)) :
    ∀ d s bd vl, s + d = 8000 → wX_matches_14 post (d + 1) (nI (pt_c (ev_q n c sy fi se l tk) s)) (nI s) (nI n) (nI c) (pt_f sy) (pt_f fi) (pt_f se) (pt_f l) (pt_f tk) bd vl := by
  intro d
  induction d with
  | zero =>
    intro s bd vl hs
    have e : s = 8000 := by omega
    subst e
    exact br_t (nI_le (a := 8000) (by omega) (by omega)) (h bd vl)
  | succ d ih =>
    intro s bd vl hs
    refine br_f (nI_ge (b := 8000) (by omega) (by omega)) (xv_value G hW bd vl (by omega) _ (fun vl' => ?_))
    have ih := ih (s + 1) (ev_D bd s) vl' (by omega)
    cases hv : ev_V n c sy fi se l tk s with
    | none =>
      rw [pt_cf (show ev_q n c sy fi se l tk s = false by unfold ev_q; rw [hv]; rfl)] at ih
      exact br_t rfl (nm_r (nI_1 s) ih)
    | some v =>
      rw [pt_ct (show ev_q n c sy fi se l tk s = true by unfold ev_q; rw [hv]; rfl)] at ih
      have := ev_Vb G.2.2.1.2.2.2.1 (show s < 8000 by omega) hv
      exact br_f (pt_m1 (by omega)) (nm_r (nI_1 _) (nm_r (nI_1 s) ih))
theorem xm_24 {n c : Nat} {sy fi se l tk kd aa bb : Nat → Nat} (G : pt_G n c sy fi se l tk kd aa bb) (hW : wh_W tk c) {a : Nat} (ha : a < n) (post : Int32 → SX → Prop)
    (h : ∀ bd vl, post (nI (pt_c (ev_qa n c sy fi se l tk (l a)) 8000)) (nI n, nI c, pt_f sy, pt_f fi, pt_f se, pt_f l, pt_f tk, bd, vl)) :
    ∀ d s bd vl, s + d = 8000 → wX_matchesAt_24 post (nI a) (d + 1) (nI (pt_c (ev_qa n c sy fi se l tk (l a)) s)) (nI s) (nI n) (nI c) (pt_f sy) (pt_f fi) (pt_f se) (pt_f l) (pt_f tk) bd vl := by
  have hn := G.1
  have bl := G.2.2.1.2.2.2.1
  intro d
  induction d with
  | zero =>
    intro s bd vl hs
    have e : s = 8000 := by omega
    subst e
    exact br_t (nI_le (a := 8000) (by omega) (by omega)) (h bd vl)
  | succ d ih =>
    intro s bd vl hs
    refine br_f (nI_ge (b := 8000) (by omega) (by omega)) (xv_value G hW bd vl (by omega) _ (fun vl' => ⟨vp_in_nI (by omega) (by omega), ?_⟩))
    have ih := ih (s + 1) (ev_D bd s) vl' (by omega)
    have bla := bl a
    by_cases e : ev_V n c sy fi se l tk s = some (l a)
    · rw [pt_ct (show ev_qa n c sy fi se l tk (l a) s = true from decide_eq_true e)] at ih
      exact br_t (by rw [e, pt_at l (by omega)]; rfl) (nm_r (nI_1 _) (nm_r (nI_1 s) ih))
    · rw [pt_cf (show ev_qa n c sy fi se l tk (l a) s = false from decide_eq_false e)] at ih
      refine br_f ?_ (nm_r (nI_1 s) ih)
      rw [pt_at l (by omega)]
      intro z
      refine e (pt_oI (y := some (l a)) (fun j hj => ?_) (fun j hj => by cases hj; omega) z)
      have := ev_Vb bl (show s < 8000 by omega) hj
      omega
theorem xm_33 {n c : Nat} {sy fi se l tk kd aa bb : Nat → Nat} (G : pt_G n c sy fi se l tk kd aa bb) (hW : wh_W tk c) (p : Int32) {v : Nat} (hv3 : v < 3) (post : Int32 → SX → Prop)
    (h1 : ∀ s, s < 8000 → ev_q n c sy fi se l tk s = true → nI (pt_c (ev_q n c sy fi se l tk) s) = p → ∀ bd vl, post (nI (ev_d s v)) (nI n, nI c, pt_f sy, pt_f fi, pt_f se, pt_f l, pt_f tk, bd, vl))
    (h0 : (∀ s, s < 8000 → ev_q n c sy fi se l tk s = true → ¬ nI (pt_c (ev_q n c sy fi se l tk) s) = p) → ∀ bd vl, post (-3) (nI n, nI c, pt_f sy, pt_f fi, pt_f se, pt_f l, pt_f tk, bd, vl)) :
    ∀ d s bd vl, s + d = 8000 → (∀ j, j < s → ev_q n c sy fi se l tk j = true → ¬ nI (pt_c (ev_q n c sy fi se l tk) j) = p) → wX_binding_33 post p (nI v) (d + 1) (nI (pt_c (ev_q n c sy fi se l tk) s)) (nI s) (nI n) (nI c) (pt_f sy) (pt_f fi) (pt_f se) (pt_f l) (pt_f tk) bd vl := by
  intro d
  induction d with
  | zero =>
    intro s bd vl hs hj
    have e : s = 8000 := by omega
    subst e
    exact br_t (nI_le (a := 8000) (by omega) (by omega)) (h0 hj bd vl)
  | succ d ih =>
    intro s bd vl hs hj
    refine br_f (nI_ge (b := 8000) (by omega) (by omega)) (xv_value G hW bd vl (by omega) _ (fun vl' => ?_))
    have ih := ih (s + 1) (ev_D bd s) vl' (by omega)
    cases hv : ev_V n c sy fi se l tk s with
    | none =>
      have hq : ev_q n c sy fi se l tk s = false := by unfold ev_q; rw [hv]; rfl
      rw [pt_cf hq] at ih
      refine br_t rfl (nm_r (nI_1 s) (ih ?_))
      intro j hj' hq'
      by_cases ej : j = s
      · subst ej; rw [hq] at hq'; exact absurd hq' (by decide)
      · exact hj j (by omega) hq'
    | some w =>
      have hq : ev_q n c sy fi se l tk s = true := by unfold ev_q; rw [hv]; rfl
      rw [pt_ct hq] at ih
      have := ev_Vb G.2.2.1.2.2.2.1 (show s < 8000 by omega) hv
      refine br_f (pt_m1 (by omega)) (br_c (fun e => ⟨vp_in_nI hv3 (by omega), ?_⟩) (fun e => nm_r (nI_1 _) (nm_r (nI_1 s) (ih ?_))))
      · rw [nI_clamp (by omega), ev_Dv hv3]
        exact h1 s (by omega) hq e _ _
      · intro j hj' hq'
        by_cases ej : j = s
        · subst ej; exact e
        · exact hj j (by omega) hq'
end
section
def ov_p (kd aa bb l : Nat → Nat) (k x y : Nat) : Nat → Bool := fun j => decide (kd j = k ∧ (k = 0 ∧ aa j = x ∨ k ≠ 0 ∧ l (aa j) = x ∧ (k = 1 ∨ l (bb j) = y)))
theorem ov_0 {n : Nat} {sy fi se l kd aa bb : Nat → Nat} (hE : cl_E n sy fi se kd aa bb) (hV : cl_V n l) {t : Nat} (h1 : 10 ≤ t) (h2 : t < 16) : (pt_s (ov_p kd aa bb l 0 (t - 10) 0) n 0).map l = ev_f n sy fi se l t 0 0 := by
  refine congrArg (Option.map l) (pt_s_cg n 0 fun j _ hj => decide_eq_decide.mpr ?_)
  have l0 := cl_0 hV (by omega)
  rcases hE.1 j (by omega) with ⟨a, b, c, d, e, f⟩ | ⟨a, b, c, d, e, f⟩ | ⟨a, b, c, d, e, f⟩
  · rw [d, e]
    exact ⟨fun z => ⟨by have := z.2; omega, l0, l0⟩, fun z => ⟨a, Or.inl ⟨rfl, by have := z.1; omega⟩⟩⟩
  · exact ⟨fun z => absurd z.1 (by omega), fun z => absurd z.1 (by omega)⟩
  · exact ⟨fun z => absurd z.1 (by omega), fun z => absurd z.1 (by omega)⟩
theorem ov_1 {n : Nat} {sy fi se l kd aa bb : Nat → Nat} (hE : cl_E n sy fi se kd aa bb) (hV : cl_V n l) (x : Nat) : (pt_s (ov_p kd aa bb l 1 x 0) n 0).map l = ev_f n sy fi se l 20 x 0 := by
  refine congrArg (Option.map l) (pt_s_cg n 0 fun j _ hj => decide_eq_decide.mpr ?_)
  have l0 := cl_0 hV (by omega)
  rcases hE.1 j (by omega) with ⟨a, b, c, d, e, f⟩ | ⟨a, b, c, d, e, f⟩ | ⟨a, b, c, d, e, f⟩
  · exact ⟨fun z => absurd z.1 (by omega), fun z => absurd z.1 (by omega)⟩
  · rw [c, e]
    exact ⟨fun z => ⟨b, by have := z.2; omega, l0⟩, fun z => ⟨a, Or.inr ⟨by omega, z.2.1, Or.inl rfl⟩⟩⟩
  · exact ⟨fun z => absurd z.1 (by omega), fun z => absurd z.1 (by omega)⟩
theorem ov_2 {n : Nat} {sy fi se l kd aa bb : Nat → Nat} (hE : cl_E n sy fi se kd aa bb) (x y : Nat) : (pt_s (ov_p kd aa bb l 2 x y) n 0).map l = ev_f n sy fi se l 21 x y := by
  refine congrArg (Option.map l) (pt_s_cg n 0 fun j _ hj => decide_eq_decide.mpr ?_)
  rcases hE.1 j (by omega) with ⟨a, b, c, d, e, f⟩ | ⟨a, b, c, d, e, f⟩ | ⟨a, b, c, d, e, f⟩
  · exact ⟨fun z => absurd z.1 (by omega), fun z => absurd z.1 (by omega)⟩
  · exact ⟨fun z => absurd z.1 (by omega), fun z => absurd z.1 (by omega)⟩
  · rw [c, e]
    exact ⟨fun z => ⟨b, by have := z.2; omega, by have := z.2; omega⟩, fun z => ⟨a, Or.inr ⟨by omega, z.2.1, Or.inr z.2.2⟩⟩⟩
theorem yv_over3 {n : Nat} (hn : n ≤ 20) {kd aa bb l : Nat → Nat} (bk : pt_B kd) (bl : pt_B l) (hd : ∀ i, i < n → aa i < 20 ∧ bb i < 20 ∧ kd i < 3) (tc w ct fd : Int32) (tk bd kp st : Nat → Int32) {k x y : Nat} (hk : k < 100) (hx : x < 100) (hy : y < 100) (post : Int32 → Prop) :
    ∀ d i, i + d = n → post (pt_o ((pt_s (ov_p kd aa bb l k x y) d i).map l)) → wY_over_3 post (nI k) (nI x) (nI y) (nI n) tc w ct fd (pt_f kd) (pt_f aa) (pt_f bb) (pt_f l) tk bd kp st (d + 1) (nI i) := by
  intro d
  induction d with
  | zero => intro i hi h; exact br_t (nI_le (by omega) (by omega)) h
  | succ d ih =>
    intro i hi h
    have h1 : i < 2 ^ 31 := by omega
    have di := hd i (by omega)
    have b2 := bl (aa i)
    have b3 := bl (bb i)
    have hin : vp_in (nI i) 20 := vp_in_nI (by omega) (by omega)
    have j1 : vp_in (pt_f aa (nI i).toNatClampNeg) 20 := by rw [pt_at aa h1]; exact vp_in_nI (by omega) (by omega)
    have j2 : vp_in (pt_f bb (nI i).toNatClampNeg) 20 := by rw [pt_at bb h1]; exact vp_in_nI (by omega) (by omega)
    have hno : ¬ (kd i = k ∧ (k = 0 ∧ aa i = x ∨ k ≠ 0 ∧ l (aa i) = x ∧ (k = 1 ∨ l (bb i) = y))) → wY_over_82 post (wY_over_3 post (nI k) (nI x) (nI y) (nI n) tc w ct fd (pt_f kd) (pt_f aa) (pt_f bb) (pt_f l) tk bd kp st (d + 1)) (nI k) (nI x) (nI y) (nI i) (nI n) tc w ct fd (pt_f kd) (pt_f aa) (pt_f bb) (pt_f l) tk bd kp st := by
      intro hp
      rw [pt_sf (show ov_p kd aa bb l k x y i = false from decide_eq_false hp)] at h
      exact br_t rfl (nm_r (nI_1 i) (ih (i + 1) (by omega) h))
    have hyes : (kd i = k ∧ (k = 0 ∧ aa i = x ∨ k ≠ 0 ∧ l (aa i) = x ∧ (k = 1 ∨ l (bb i) = y))) → wY_over_78 post (wY_over_3 post (nI k) (nI x) (nI y) (nI n) tc w ct fd (pt_f kd) (pt_f aa) (pt_f bb) (pt_f l) tk bd kp st (d + 1)) (nI k) (nI x) (nI y) (nI i) (nI n) tc w ct fd (pt_f kd) (pt_f aa) (pt_f bb) (pt_f l) tk bd kp st := by
      intro hp
      rw [pt_st (show ov_p kd aa bb l k x y i = true from decide_eq_true hp)] at h
      exact br_f (by decide) ⟨hin, by rw [pt_at l h1]; exact h⟩
    exact br_f (nI_ge (by omega) (by omega)) ⟨hin, pk_eq (kd i) k (fun e1 => pk_eq k 0 (fun e2 => ⟨hin, pk_eq (aa i) x (fun e3 => hyes ⟨e1, Or.inl ⟨e2, e3⟩⟩) (fun e3 => hno fun z => z.2.elim (fun z => e3 z.2) (fun z => z.1 e2)) (pt_at aa h1) rfl⟩) (fun e2 => ⟨hin, j1, pk_eq (l (aa i)) x (fun e3 => pk_eq k 1 (fun e4 => hyes ⟨e1, Or.inr ⟨e2, e3, Or.inl e4⟩⟩) (fun e4 => ⟨hin, j2, pk_eq (l (bb i)) y (fun e5 => hyes ⟨e1, Or.inr ⟨e2, e3, Or.inr e5⟩⟩) (fun e5 => hno fun z => z.2.elim (fun z => e2 z.1) (fun z => z.2.2.elim e4 e5)) (pt_at2 l bb h1 (by omega)) rfl⟩)) (fun e3 => hno fun z => z.2.elim (fun z => e2 z.1) (fun z => e3 z.2.1)) (pt_at2 l aa h1 (by omega)) rfl⟩)) (fun e1 => hno fun z => e1 z.1) (pt_at kd h1) rfl⟩
theorem yv_over {n : Nat} (hn : n ≤ 20) {kd aa bb l : Nat → Nat} (bk : pt_B kd) (bl : pt_B l) (hd : ∀ i, i < n → aa i < 20 ∧ bb i < 20 ∧ kd i < 3) (tc w ct fd : Int32) (tk bd kp st : Nat → Int32) (k : Nat) {x : Nat} (y : Nat) (hk : k < 100) (hx : x < 100) (hy : y < 100) (z : Option Nat) (hz : (pt_s (ov_p kd aa bb l k x y) n 0).map l = z) (post : Int32 → Prop) (h : post (pt_o z)) :
    wpY_over post (nI n, tc, w, ct, fd, pt_f kd, pt_f aa, pt_f bb, pt_f l, tk, bd, kp, st) (nI k) (nI x) (nI y) := by
  refine ⟨n + 1, yv_over3 hn bk bl hd tc w ct fd tk bd kp st hk hx hy post n 0 (by omega) ?_⟩
  rw [hz]
  exact h
theorem yv_9 {n c : Nat} {sy fi se l tk kd aa bb dg : Nat → Nat} (G : pt_G n c sy fi se l tk kd aa bb) (hW : wh_W tk c) (hdg : ∀ v, dg v < 100) {bd : Nat → Int32} (hbd : ∀ v, v < 3 → bd v = nI (dg v)) (w ct fd : Int32) (kp : Nat → Int32) (post : Int32 → SY → Prop) :
    ∀ i (st : List (Option Nat)) (sa : Nat → Int32), i ≤ c → (st.length : Int) = wh_S tk i - wh_S tk c → st.length + i ≤ c → ev_k sa st → ev_b st →
      (∀ sa', post (pt_o (ev_h (ev_r (ev_f n sy fi se l) dg tk i st))) (nI n, nI c, w, ct, fd, pt_f kd, pt_f aa, pt_f bb, pt_f l, pt_f tk, bd, kp, sa')) →
      wY_value_9 post (nI n) (nI c) w ct fd (i + 1) (nI st.length) (nI i + (-1)) (pt_f kd) (pt_f aa) (pt_f bb) (pt_f l) (pt_f tk) bd kp sa := by
  obtain ⟨hn, hc, ⟨bs, bf, be, bl, bt, bk, ba, bbb⟩, hE, hV, hK, hT⟩ := G
  have hd := cl_Ed hn hE
  intro i
  induction i with
  | zero =>
    intro st sa _ hl _ hk _ h
    have hl : (st.length : Int) = 0 - wh_S tk c := hl
    have hw2 := hW.2
    refine br_t (by decide +kernel) ?_
    cases st with
    | nil => simp only [List.length_nil] at hl; omega
    | cons x r =>
      cases r with
      | nil =>
        have h := h sa
        refine br_f (show ¬ nI 1 ≤ 0 from by decide +kernel) ?_
        show post (sa 0) _
        rw [show sa 0 = pt_o x from hk.1]
        exact h
      | cons y r => simp only [List.length_cons] at hl; omega
  | succ i ih =>
    intro st sa hi hl hlc hk hb h
    have h31 : i < 2 ^ 31 := by omega
    have hat : pt_f tk (nI i).toNatClampNeg = nI (tk i) := pt_at tk h31
    have hwa := ev_wa hW (show i < c by omega) hl
    have hwl := ev_wl (cf := ev_f n sy fi se l) (dg := dg) hT hW (show i < c by omega) hl
    have hlt := ev_lt (cf := ev_f n sy fi se l) (dg := dg) hT (show i < c by omega) hwa
    have hbt := bt i
    have fin : ∀ (z : Option Nat) (r : List (Option Nat)), ev_t (ev_f n sy fi se l) dg (tk i) st = z :: r → (∀ v, z = some v → v < 100) → ev_k sa r → ev_b r → 
        wY_value_9 post (nI n) (nI c) w ct fd (i + 1) (nI (r.length + 1)) (nI i + (-1)) (pt_f kd) (pt_f aa) (pt_f bb) (pt_f l) (pt_f tk) bd kp (upd sa r.length (pt_o z)) := by
      intro z r ht hz hkr hbr
      have h : ∀ sa', post (pt_o (ev_h (ev_r (ev_f n sy fi se l) dg tk i (ev_t (ev_f n sy fi se l) dg (tk i) st)))) (nI n, nI c, w, ct, fd, pt_f kd, pt_f aa, pt_f bb, pt_f l, pt_f tk, bd, kp, sa') := h
      rw [ht] at h hwl hlt
      have hlt' : (r.length + 1) + wh_a (tk i) = st.length + 1 := hlt
      refine ih (z :: r) _ (by omega) hwl ?_ (ev_kp hkr) (ev_bc hz hbr) h
      show r.length + 1 + i ≤ c
      omega
    rw [pk_m1 i]
    refine br_f (nI_pos h31) ⟨vp_in_nI (by omega) (by omega), nm_r hat ?_⟩
    rcases (show tk i < 20 ∨ tk i = 20 ∨ tk i = 21 from by have := hT i (by omega); omega) with e | e | e
    · have p36 : ∀ z0, wY_value_36 post (wY_value_9 post (nI n) (nI c) w ct fd (i + 1)) (nI st.length) (nI i) (nI (tk i)) z0 (nI n) (nI c) w ct fd (pt_f kd) (pt_f aa) (pt_f bb) (pt_f l) (pt_f tk) bd kp sa := by
        intro z0
        have hs8 : vp_in (nI st.length) 8 := vp_in_nI (by omega) (by omega)
        have hcl : (nI st.length).toNatClampNeg = st.length := nI_clamp (by omega)
        refine pk_le 20 (tk i) (fun z => by omega) (fun _ => pk_le 3 (tk i) (fun h3 => ?_) (fun h3 => ⟨vp_in_nI h3 (by omega), hs8, ?_⟩))
        · rw [show nI (tk i) - 10 = nI (tk i - 10) from pk_sub (b := 10) (by have := hT i (by omega); omega)]
          refine yv_over hn bk bl hd _ _ _ _ _ _ _ _ 0 0 (by omega) (by omega) (by omega) _ (ov_0 hE hV (by have := hT i (by omega); omega) (by have := hT i (by omega); omega)) _ ⟨hs8, ?_⟩
          rw [hcl]
          exact nm_e (nm_r (nI_1 _) (nm_e (fin _ st (ev_t2 (by omega) e) (fun v hv => ev_fb bl hv) hk hb)))
        · rw [hcl, nI_clamp (by omega), hbd _ h3]
          exact nm_e (nm_r (nI_1 _) (nm_e (fin (some (dg (tk i))) st (ev_t1 h3) (fun v hv => by cases hv; exact hdg _) hk hb)))
      refine pk_le st.length 0 (fun _ => p36 _) (fun hp => ⟨?_, p36 _⟩)
      obtain ⟨m, hm⟩ : ∃ m, st.length = m + 1 := ⟨st.length - 1, by omega⟩
      rw [hm, nI_pred]
      exact vp_in_nI (by omega) (by omega)
    · rw [e] at hwa
      cases st with
      | nil => exact absurd hwa (by decide)
      | cons x r =>
        have hlc' : r.length + 1 + (i + 1) ≤ c := hlc
        have e1 : nI (x :: r).length - 1 = nI r.length := nI_pred _
        have i1 : vp_in (nI r.length) 8 := vp_in_nI (by omega) (by omega)
        have cl : (nI r.length).toNatClampNeg = r.length := nI_clamp (by omega)
        have n0 : ¬ nI (x :: r).length ≤ 0 := nI_nle (Nat.succ_pos _) (show r.length + 1 < 2 ^ 31 by omega)
        refine br_f n0 ?_
        rw [e1, cl, show sa r.length = pt_o x from hk.1]
        refine ⟨i1, pk_le 20 (tk i) (fun _ => pk_eq (tk i) 20 (fun _ => br_f n0 ?_) (fun z => absurd e z)) (fun z => by omega)⟩
        cases x with
        | none =>
          refine br_f (by decide) ?_
          rw [e1, cl]
          exact ⟨i1, nm_e (nm_e (fin none r (by rw [e]; rfl) (fun v hv => nomatch hv) hk.2 (ev_bt hb)))⟩
        | some a =>
          have ha := ev_bh hb
          refine br_t (nI_pos' (by omega)) ?_
          refine yv_over hn bk bl hd _ _ _ _ _ _ _ _ 1 0 (by omega) ha (by omega) _ (ov_1 hE hV a) _ ?_
          rw [e1, cl]
          exact ⟨i1, nm_e (nm_e (fin _ r (by rw [e]; rfl) (fun v hv => ev_fb bl hv) hk.2 (ev_bt hb)))⟩
    · rw [e] at hwa
      cases st with
      | nil => exact absurd hwa (by decide)
      | cons x r =>
        cases r with
        | nil => exact absurd (show 2 ≤ 1 from hwa) (by decide)
        | cons y r =>
          have hlc' : r.length + 1 + 1 + (i + 1) ≤ c := hlc
          have e1 : nI (x :: y :: r).length - 1 = nI (r.length + 1) := nI_pred _
          have e2 : nI (x :: y :: r).length - 2 = nI r.length := pk_sub (a := r.length + 1 + 1) (b := 2) (by omega)
          have e3 : nI (x :: y :: r).length + (-1) = nI (r.length + 1) := pk_m1 _
          have i1 : vp_in (nI (r.length + 1)) 8 := vp_in_nI (by omega) (by omega)
          have i2 : vp_in (nI r.length) 8 := vp_in_nI (by omega) (by omega)
          have cl1 : (nI (r.length + 1)).toNatClampNeg = r.length + 1 := nI_clamp (by omega)
          have cl : (nI r.length).toNatClampNeg = r.length := nI_clamp (by omega)
          have n0 : ¬ nI (x :: y :: r).length ≤ 0 := nI_nle (Nat.succ_pos _) (show r.length + 1 + 1 < 2 ^ 31 by omega)
          have n1 : ¬ nI (x :: y :: r).length ≤ 1 := nI_ge (a := 1) (b := r.length + 1 + 1) (by omega) (by omega)
          refine br_f n0 ?_
          rw [e1, cl1, show sa (r.length + 1) = pt_o x from hk.1]
          refine ⟨i1, pk_le 20 (tk i) (fun _ => pk_eq (tk i) 20 (fun z => by omega) (fun _ => br_f n1 ?_)) (fun z => by omega)⟩
          rw [e2, e3, cl, show sa r.length = pt_o y from hk.2.1]
          have fn := fun (z : Option Nat) h1 h2 => fin z r h1 h2 hk.2.2 (ev_bt (ev_bt hb))
          refine ⟨i2, nm_e ?_⟩
          cases x with
          | none => exact br_t (by decide) ⟨i2, nm_e (nm_e (nm_e (fn none (by rw [e]; rfl) (fun v hv => nomatch hv))))⟩
          | some a =>
            have ha := ev_bh hb
            refine br_f (nI_pos (by omega)) ?_
            cases y with
            | none => exact br_f (by decide) ⟨i2, nm_e (nm_e (nm_e (fn none (by rw [e]; rfl) (fun v hv => nomatch hv))))⟩
            | some b =>
              have hb' := ev_bh (ev_bt hb)
              refine br_t (nI_pos' (by omega)) ?_
              exact yv_over hn bk bl hd _ _ _ _ _ _ _ _ 2 b (by omega) ha hb' _ (ov_2 hE a b) _ ⟨i2, nm_e (nm_e (nm_e (fn _ (by rw [e]; rfl) (fun v hv => ev_fb bl hv))))⟩
theorem yv_value {n c : Nat} {sy fi se l tk kd aa bb dg : Nat → Nat} (G : pt_G n c sy fi se l tk kd aa bb) (hW : wh_W tk c) (hdg : ∀ v, dg v < 100) {bd : Nat → Int32} (hbd : ∀ v, v < 3 → bd v = nI (dg v)) (w ct fd : Int32) (kp sa : Nat → Int32) (post : Int32 → SY → Prop)
    (h : ∀ sa', post (pt_o (ev_h (ev_r (ev_f n sy fi se l) dg tk c []))) (nI n, nI c, w, ct, fd, pt_f kd, pt_f aa, pt_f bb, pt_f l, pt_f tk, bd, kp, sa')) :
    wpY_value post (nI n, nI c, w, ct, fd, pt_f kd, pt_f aa, pt_f bb, pt_f l, pt_f tk, bd, kp, sa) := by
  refine nm_r (wh_m1 _) ⟨c + 1, yv_9 G hW hdg hbd w ct fd kp post c [] sa (by omega) ?_ ?_ True.intro ev_b0 h⟩
  · show (0 : Int) = _
    omega
  · show 0 + c ≤ c
    omega
theorem yv_tried {n c : Nat} (hn : n ≤ 20) (hc : c ≤ 7) {l tk : Nat → Nat} (bl : pt_B l) (bt : pt_B tk) (w ct fd : Int32) (kd aa bb bd kp st : Nat → Int32) {v k : Nat} (hv : v < 100) (hk : k < 100) (post : Int32 → Prop) (h1 : ev_T n c l tk v k → post 1) (h0 : ¬ ev_T n c l tk v k → post 0) :
    wpY_tried post (nI n, nI c, w, ct, fd, kd, aa, bb, pt_f l, pt_f tk, bd, kp, st) (nI v) (nI k) := by
  have b := bl k
  refine yw_has hc bt _ _ _ _ _ _ _ _ _ _ _ hv _ (fun hH => br_f (by decide) (pk_le n k (fun hk' => h0 ?_) (fun hk' => ⟨vp_in_nI (by omega) (by omega), pk_eq (l k) k (fun e => h1 (Or.inl ⟨hH, hk', e⟩)) (fun e => h0 ?_) (pt_at l (by omega)) rfl⟩))) (fun hH => br_t rfl (pk_eq k 0 (fun e => h1 (Or.inr ⟨hH, e⟩)) (fun e => h0 ?_)))
  · exact fun z => z.elim (fun z => by have := z.2.1; omega) (fun z => z.1 hH)
  · exact fun z => z.elim (fun z => e z.2.2) (fun z => z.1 hH)
  · exact fun z => z.elim (fun z => hH z.1) (fun z => e z.2)
end
section
theorem yl_42 (n tc w ct fd : Int32) (kd aa bb la tk bd sa : Nat → Int32) (post : SY → Prop)
    (h : ∀ kp', (∀ v, v < 3 → kp' v = bd v) → post (n, tc, w, ct, fd + 1, kd, aa, bb, la, tk, bd, kp', sa)) :
    ∀ d i kp, i + d = 3 → (∀ v, v < i → kp v = bd v) → wY_look_42 post n tc w ct fd (d + 1) (nI i) kd aa bb la tk bd kp sa := by
  intro d
  induction d with
  | zero =>
    intro i kp hi hj
    have e : i = 3 := by omega
    subst e
    exact br_t (nI_le (a := 3) (by omega) (by omega)) (nm_e (h kp hj))
  | succ d ih =>
    intro i kp hi hj
    have hin : vp_in (nI i) 3 := vp_in_nI (by omega) (by omega)
    refine br_f (nI_ge (b := 3) (by omega) (by omega)) ⟨hin, hin, nm_r (e' := upd kp i (bd i)) (by rw [nI_clamp (by omega)]) (nm_r (nI_1 i) (ih (i + 1) _ (by omega) ?_))⟩
    intro v hv
    by_cases e : v = i
    · subst e; exact pk_us
    · rw [pk_un e]; exact hj v (by omega)
theorem yl_29 (n tc w ct fd : Int32) (kd aa bb la tk bd kp sa : Nat → Int32) (post : SY → Prop)
    (h1 : fd = w → ∀ kp', (∀ v, v < 3 → kp' v = bd v) → post (n, tc, w, ct, fd + 1, kd, aa, bb, la, tk, bd, kp', sa))
    (h0 : ¬ fd = w → post (n, tc, w, ct, fd + 1, kd, aa, bb, la, tk, bd, kp, sa)) : wY_look_29 post n tc w ct fd kd aa bb la tk bd kp sa :=
  br_c (fun e => ⟨4, yl_42 n tc w ct fd kd aa bb la tk bd sa post (h1 e) 3 0 kp (by omega) (fun v hv => absurd hv (Nat.not_lt_zero _))⟩) (fun e => nm_e (h0 e))
def ys_I (n c : Nat) (sy fi se l tk : Nat → Nat) (w : Int32) (s : Nat) (kp : Nat → Int32) : Prop :=
  ∀ j, j < s → ev_q n c sy fi se l tk j = true → nI (pt_c (ev_q n c sy fi se l tk) j) = w → ∀ v, v < 3 → kp v = nI (ev_d j v)
def ys_Q (n c : Nat) (sy fi se l tk : Nat → Nat) (tg : Int32) (Q : Nat → Bool) : Prop :=
  ∀ s, s < 8000 → (ev_V n c sy fi se l tk s = none → Q s = false) ∧ (∀ v, ev_V n c sy fi se l tk s = some v → (Q s = true ↔ (tg < 0 ∨ nI v = tg)))
theorem ys_I1 {n c : Nat} {sy fi se l tk : Nat → Nat} {w : Int32} {s : Nat} {kp : Nat → Int32} (h : ys_I n c sy fi se l tk w s kp) (h1 : ev_q n c sy fi se l tk s = true → nI (pt_c (ev_q n c sy fi se l tk) s) = w → ∀ v, v < 3 → kp v = nI (ev_d s v)) : ys_I n c sy fi se l tk w (s + 1) kp := by
  intro j hj hq
  by_cases e : j = s
  · subst e; exact h1 hq
  · exact h j (by omega) hq
theorem yl_look {n c : Nat} {sy fi se l tk kd aa bb : Nat → Nat} (G : pt_G n c sy fi se l tk kd aa bb) (hW : wh_W tk c) {w tg : Int32} {Q : Nat → Bool} (hQ : ys_Q n c sy fi se l tk tg Q) {s : Nat} (hs : s < 8000) (hP : ev_P n c l tk s) (bd kp sa : Nat → Int32) (hI : ys_I n c sy fi se l tk w s kp) (post : SY → Prop)
    (h : ∀ kp' sa', ys_I n c sy fi se l tk w (s + 1) kp' → post (nI n, nI c, w, nI (pt_c Q (s + 1)), nI (pt_c (ev_q n c sy fi se l tk) (s + 1)), pt_f kd, pt_f aa, pt_f bb, pt_f l, pt_f tk, ev_D bd s, kp', sa')) :
    wpY_look post (nI n, nI c, w, nI (pt_c Q s), nI (pt_c (ev_q n c sy fi se l tk) s), pt_f kd, pt_f aa, pt_f bb, pt_f l, pt_f tk, ev_D bd s, kp, sa) tg := by
  refine yv_value G hW (dg := ev_d s) (fun v => Nat.lt_trans (ev_d20 hs v) (by omega)) (fun v hv => ev_Dv hv) w _ _ kp sa _ (fun sa' => ?_)
  have hQ := hQ s hs
  have eV := ev_Vt (sy := sy) (fi := fi) (se := se) hP
  rw [← eV]
  cases hv : ev_V n c sy fi se l tk s with
  | none =>
    have hq : ev_q n c sy fi se l tk s = false := by unfold ev_q; rw [hv]; rfl
    rw [pt_cf hq, pt_cf (hQ.1 hv)] at h
    exact br_f (by decide) (h kp sa' (ys_I1 hI (fun z => by rw [hq] at z; exact absurd z (by decide))))
  | some v =>
    have hq : ev_q n c sy fi se l tk s = true := by unfold ev_q; rw [hv]; rfl
    have hb := ev_Vb G.2.2.1.2.2.2.1 hs hv
    have hc1 := pt_c_le (ev_q n c sy fi se l tk) s
    rw [pt_ct hq] at h
    have go : ∀ ct : Int32, ct = nI (pt_c Q (s + 1)) → wY_look_29 post (nI n) (nI c) w ct (nI (pt_c (ev_q n c sy fi se l tk) s)) (pt_f kd) (pt_f aa) (pt_f bb) (pt_f l) (pt_f tk) (ev_D bd s) kp sa' := by
      intro ct hct
      subst hct
      refine yl_29 _ _ _ _ _ _ _ _ _ _ _ _ _ _ (fun e kp' hk => ?_) (fun e => ?_)
      · rw [nI_1]
        refine h kp' sa' ?_
        intro j hj hq' hw v' hv'
        by_cases ej : j = s
        · subst ej; rw [hk v' hv']; exact ev_Dv hv'
        · exfalso
          have l1 := pt_c_lt (show j < s by omega) hq'
          rw [← e, nI_eq (by omega) (by omega)] at hw
          omega
      · rw [nI_1]
        exact h kp sa' (ys_I1 hI (fun _ z => absurd z e))
    have yes : Q s = true → wY_look_19 post (nI n) (nI c) w (nI (pt_c Q s)) (nI (pt_c (ev_q n c sy fi se l tk) s)) (pt_f kd) (pt_f aa) (pt_f bb) (pt_f l) (pt_f tk) (ev_D bd s) kp sa' := by
      intro z
      exact nm_e (go _ (by rw [nI_1, pt_ct z]))
    refine br_t (nI_pos' (by omega)) (br_c (fun e => yes ((hQ.2 v hv).mpr (Or.inl e))) (fun e => br_c (fun e2 => yes ((hQ.2 v hv).mpr (Or.inr e2))) (fun e2 => go _ ?_)))
    rw [pt_cf]
    cases hz : Q s with
    | false => rfl
    | true => exact absurd ((hQ.2 v hv).mp hz) (fun z => z.elim e e2)
theorem ys_P {n c k m : Nat} {l tk : Nat → Nat} (hm : m < 20) (h0 : ev_T n c l tk 0 (k / 20)) (h1 : ev_T n c l tk 1 (k % 20)) (h2 : ev_T n c l tk 2 m) : ev_P n c l tk (20 * k + m) := by
  intro v hv
  rcases (show v = 0 ∨ v = 1 ∨ v = 2 from by omega) with e | e | e <;> subst e
  · show ev_T n c l tk 0 ((20 * k + m) / 400)
    rw [show (20 * k + m) / 400 = k / 20 from by omega]; exact h0
  · show ev_T n c l tk 1 ((20 * k + m) / 20 % 20)
    rw [show (20 * k + m) / 20 % 20 = k % 20 from by omega]; exact h1
  · show ev_T n c l tk 2 ((20 * k + m) % 20)
    rw [show (20 * k + m) % 20 = m from by omega]; exact h2
theorem ys_D {bd : Nat → Int32} {k m : Nat} (hm : m < 20) : upd (upd (upd bd 0 (nI (k / 20))) 1 (nI (k % 20))) 2 (nI m) = ev_D bd (20 * k + m) := by
  unfold ev_D
  rw [show (20 * k + m) / 400 = k / 20 from by omega, show (20 * k + m) / 20 % 20 = k % 20 from by omega, show (20 * k + m) % 20 = m from by omega]
theorem ys_27 {n c : Nat} {sy fi se l tk kd aa bb : Nat → Nat} (G : pt_G n c sy fi se l tk kd aa bb) (hW : wh_W tk c) {w tg : Int32} {Q : Nat → Bool} (hQ : ys_Q n c sy fi se l tk tg Q) {k : Nat} (hk : k < 400) (post : SY → Prop)
    (J17 : Int32 → Int32 → Int32 → Int32 → Int32 → Int32 → (Nat → Int32) → (Nat → Int32) → (Nat → Int32) → (Nat → Int32) → (Nat → Int32) → (Nat → Int32) → (Nat → Int32) → (Nat → Int32) → Prop)
    (hJ : ∀ bd kp sa, ys_I n c sy fi se l tk w (20 * (k + 1)) kp → J17 (nI (k + 1)) (nI n) (nI c) w (nI (pt_c Q (20 * (k + 1)))) (nI (pt_c (ev_q n c sy fi se l tk) (20 * (k + 1)))) (pt_f kd) (pt_f aa) (pt_f bb) (pt_f l) (pt_f tk) bd kp sa) :
    ∀ d m bd kp sa, m + d = 20 → ys_I n c sy fi se l tk w (20 * k + m) kp →
      wY_search_27 post J17 tg (nI k) (d + 1) (nI m) (nI n) (nI c) w (nI (pt_c Q (20 * k + m))) (nI (pt_c (ev_q n c sy fi se l tk) (20 * k + m))) (pt_f kd) (pt_f aa) (pt_f bb) (pt_f l) (pt_f tk) bd kp sa := by
  have hn := G.1
  have hc := G.2.1
  have bl := G.2.2.1.2.2.2.1
  have bt := G.2.2.1.2.2.2.2.1
  intro d
  induction d with
  | zero =>
    intro m bd kp sa hm hI
    have e : m = 20 := by omega
    subst e
    exact br_t (nI_le (a := 20) (by omega) (by omega)) (nm_r (nI_1 k) (hJ bd kp sa hI))
  | succ d ih =>
    intro m bd kp sa hm hI
    have e1 : nI k / 20 = nI (k / 20) := pk_div (d := 20) (by omega) (by omega) (by omega)
    have e2 : nI k - nI k / 20 * 20 = nI (k % 20) := pk_rem (d := 20) (by omega) (by omega) (by omega)
    have hs : 20 * k + m < 8000 := by omega
    have skip : ¬ ev_P n c l tk (20 * k + m) → ∀ y, y = nI m + 1 → wY_search_27 post J17 tg (nI k) (d + 1) y (nI n) (nI c) w (nI (pt_c Q (20 * k + m))) (nI (pt_c (ev_q n c sy fi se l tk) (20 * k + m))) (pt_f kd) (pt_f aa) (pt_f bb) (pt_f l) (pt_f tk) bd kp sa := by
      intro hP
      have hv := ev_Vf (sy := sy) (fi := fi) (se := se) hP
      have hq : ev_q n c sy fi se l tk (20 * k + m) = false := by unfold ev_q; rw [hv]; rfl
      have ih := ih (m + 1) bd kp sa (by omega) (ys_I1 (s := 20 * k + m) hI (fun z => by rw [hq] at z; exact absurd z (by decide)))
      rw [← Nat.add_assoc, pt_cf hq, pt_cf ((hQ _ hs).1 hv)] at ih
      exact nm_r (nI_1 m) ih
    refine br_f (nI_ge (b := 20) (by omega) (by omega)) ⟨by decide, ?_⟩
    rw [e2, e1]
    refine yv_tried hn hc bl bt _ _ _ _ _ _ _ _ _ (v := 0) (by omega) (by omega) _ (fun t0 => br_f (by decide) ⟨by decide, ?_⟩) (fun t0 => br_t rfl (skip ?_))
    · refine yv_tried hn hc bl bt _ _ _ _ _ _ _ _ _ (v := 1) (by omega) (by omega) _ (fun t1 => br_f (by decide) ?_) (fun t1 => br_t rfl (skip ?_))
      · refine yv_tried hn hc bl bt _ _ _ _ _ _ _ _ _ (v := 2) (by omega) (by omega) _ (fun t2 => br_f (by decide) ⟨by decide, nm_e ⟨by decide, nm_e (nm_r (ys_D (by omega)) ?_)⟩⟩) (fun t2 => br_t rfl (skip ?_))
        · exact yl_look G hW hQ hs (ys_P (by omega) t0 t1 t2) bd kp sa hI _ (fun kp' sa' hI' => nm_r (nI_1 m) (ih (m + 1) _ kp' sa' (by omega) hI'))
        · intro z
          have := z 2 (by omega)
          rw [show ev_d (20 * k + m) 2 = m from (show (20 * k + m) % 20 = m from by omega)] at this
          exact t2 this
      · intro z
        have := z 1 (by omega)
        rw [show ev_d (20 * k + m) 1 = k % 20 from (show (20 * k + m) / 20 % 20 = k % 20 from by omega)] at this
        exact t1 this
    · intro z
      have := z 0 (by omega)
      rw [show ev_d (20 * k + m) 0 = k / 20 from (show (20 * k + m) / 400 = k / 20 from by omega)] at this
      exact t0 this
theorem ys_17 {n c : Nat} {sy fi se l tk kd aa bb : Nat → Nat} (G : pt_G n c sy fi se l tk kd aa bb) (hW : wh_W tk c) {w tg : Int32} {Q : Nat → Bool} (hQ : ys_Q n c sy fi se l tk tg Q) (post : SY → Prop)
    (h : ∀ bd kp sa, ys_I n c sy fi se l tk w 8000 kp → post (nI n, nI c, w, nI (pt_c Q 8000), nI (pt_c (ev_q n c sy fi se l tk) 8000), pt_f kd, pt_f aa, pt_f bb, pt_f l, pt_f tk, bd, kp, sa)) :
    ∀ d k bd kp sa, k + d = 400 → ys_I n c sy fi se l tk w (20 * k) kp →
      wY_search_17 post tg (d + 1) (nI k) (nI n) (nI c) w (nI (pt_c Q (20 * k))) (nI (pt_c (ev_q n c sy fi se l tk) (20 * k))) (pt_f kd) (pt_f aa) (pt_f bb) (pt_f l) (pt_f tk) bd kp sa := by
  intro d
  induction d with
  | zero =>
    intro k bd kp sa hk hI
    have e : k = 400 := by omega
    subst e
    exact br_t (nI_le (a := 400) (by omega) (by omega)) (h bd kp sa hI)
  | succ d ih =>
    intro k bd kp sa hk hI
    exact br_f (nI_ge (b := 400) (by omega) (by omega)) ⟨21, ys_27 G hW hQ (by omega) post _ (fun bd kp sa hI => ih (k + 1) bd kp sa (by omega) hI) 20 0 bd kp sa (by omega) hI⟩
theorem ys_search {n c : Nat} {sy fi se l tk kd aa bb : Nat → Nat} (G : pt_G n c sy fi se l tk kd aa bb) (hW : wh_W tk c) (w tg : Int32) (Q : Nat → Bool) (hQ : ys_Q n c sy fi se l tk tg Q) (w0 c0 f0 : Int32) (bd kp sa : Nat → Int32) (post : SY → Prop)
    (h : ∀ bd kp sa, ys_I n c sy fi se l tk w 8000 kp → post (nI n, nI c, w, nI (pt_c Q 8000), nI (pt_c (ev_q n c sy fi se l tk) 8000), pt_f kd, pt_f aa, pt_f bb, pt_f l, pt_f tk, bd, kp, sa)) :
    wpY_search post (nI n, nI c, w0, c0, f0, pt_f kd, pt_f aa, pt_f bb, pt_f l, pt_f tk, bd, kp, sa) tg w :=
  ⟨401, ys_17 G hW hQ post h 400 0 bd kp sa (by omega) (fun j hj => absurd hj (Nat.not_lt_zero _))⟩
end
section
theorem mk_E {n : Nat} {sy fi se kd aa bb : Nat → Nat} (hE : cl_E n sy fi se kd aa bb) {s f g x y z : Nat}
    (hN : (x = 0 ∧ s = 10 + y ∧ y < 6 ∧ f = 0 ∧ g = 0 ∧ z = 0) ∨ (x = 1 ∧ s = 20 ∧ f = y ∧ y < n ∧ g = 0 ∧ z = 0) ∨ (x = 2 ∧ s = 21 ∧ f = y ∧ y < n ∧ g = z ∧ z < n))
    (hnew : ∀ j, j < n → ¬ (kd j = x ∧ aa j = y ∧ bb j = z)) : cl_E (n + 1) (pt_u sy n s) (pt_u fi n f) (pt_u se n g) (pt_u kd n x) (pt_u aa n y) (pt_u bb n z) := by
  refine ⟨?_, ?_⟩
  · intro k hk
    by_cases e : k = n
    · subst e
      rw [pt_us, pt_us, pt_us, pt_us, pt_us, pt_us]
      omega
    · have := hE.1 k (by omega)
      rw [pt_un e, pt_un e, pt_un e, pt_un e, pt_un e, pt_un e]
      omega
  · intro i j hi hj
    by_cases e : i = n
    · by_cases e2 : j = n
      · intro _ _ _; omega
      · subst e
        rw [pt_us, pt_us, pt_un e2, pt_un e2]
        intro h1 h2 h3
        have := hE.1 j (by omega)
        exact absurd ⟨by omega, by omega, by omega⟩ (hnew j (by omega))
    · by_cases e2 : j = n
      · subst e2
        rw [pt_us, pt_us, pt_un e, pt_un e]
        intro h1 h2 h3
        have := hE.1 i (by omega)
        exact absurd ⟨by omega, by omega, by omega⟩ (hnew i (by omega))
      · rw [pt_un e, pt_un e, pt_un e2, pt_un e2]
        exact hE.2 i j (by omega) (by omega)
theorem mk_p {n : Nat} {sy fi se kd aa bb : Nat → Nat} (hE : cl_E n sy fi se kd aa bb) {s f g x y z : Nat}
    (hN : (x = 0 ∧ s = 10 + y ∧ y < 6 ∧ f = 0 ∧ g = 0 ∧ z = 0) ∨ (x = 1 ∧ s = 20 ∧ f = y ∧ y < n ∧ g = 0 ∧ z = 0) ∨ (x = 2 ∧ s = 21 ∧ f = y ∧ y < n ∧ g = z ∧ z < n)) :
    pt_s (fun j => decide (kd j = x ∧ aa j = y ∧ bb j = z)) n 0 = pt_s (fun j => decide (sy j = s ∧ fi j = f ∧ se j = g)) n 0 := by
  refine pt_s_cg n 0 fun j _ hj => decide_eq_decide.mpr ?_
  have := hE.1 j (by omega)
  constructor
  · intro h; omega
  · intro h; omega
theorem mk_X {n c : Nat} {sy fi se l tk kd aa bb : Nat → Nat} (G : pt_G n c sy fi se l tk kd aa bb) {s f g x y z : Nat}
    (hN : (x = 0 ∧ s = 10 + y ∧ y < 6 ∧ f = 0 ∧ g = 0 ∧ z = 0) ∨ (x = 1 ∧ s = 20 ∧ f = y ∧ y < n ∧ g = 0 ∧ z = 0) ∨ (x = 2 ∧ s = 21 ∧ f = y ∧ y < n ∧ g = z ∧ z < n))
    (bd vl : Nat → Int32) (w ct fd : Int32) (bd' kp st : Nat → Int32) (PX : Int32 → SX → Prop)
    (H : ∀ (r : Int32) (n' : Nat) (sy' fi' se' l' kd' aa' bb' : Nat → Nat), pt_G n' c sy' fi' se' l' tk kd' aa' bb' →
      (∀ post : Int32 → SY → Prop, post r (nI n', nI c, w, ct, fd, pt_f kd', pt_f aa', pt_f bb', pt_f l', pt_f tk, bd', kp, st) → wpY_make post (nI n, nI c, w, ct, fd, pt_f kd, pt_f aa, pt_f bb, pt_f l, pt_f tk, bd', kp, st) (nI x) (nI y) (nI z)) →
      PX r (nI n', nI c, pt_f sy', pt_f fi', pt_f se', pt_f l', pt_f tk, bd, vl)) :
    wpX_nodeMade PX (nI n, nI c, pt_f sy, pt_f fi, pt_f se, pt_f l, pt_f tk, bd, vl) (nI s) (nI f) (nI g) := by
  have G' := G
  obtain ⟨hn, hc, ⟨bs, bf, be, bl, bt, bk, ba, bbb⟩, hE, hV, hK, hT⟩ := G'
  have hp := mk_p hE hN
  have q1 : s < 100 ∧ f < n + 1 ∧ g < n + 1 ∧ x < 100 ∧ y < 100 ∧ z < 100 := by omega
  refine xc_made hn bs bf be bl hV (cl_Ec hE) _ _ bd vl q1.1 q1.2.1 q1.2.2.1 PX (fun r hr => ?_) (fun hr e => ?_) (fun hr hlt l' hI hK' => ?_)
  · refine H (nI r) n sy fi se l kd aa bb G (fun post h => yc_make (sy := sy) (fi := fi) (se := se) hn bk ba bbb bl hV _ _ _ _ _ _ _ _ q1.2.2.2.1 q1.2.2.2.2.1 q1.2.2.2.2.2 post (fun r' hr' => ?_) (fun hr' => ?_) (fun hr' => ?_))
    · rw [hp, hr] at hr'; cases hr'; exact h
    · rw [hp, hr] at hr'; cases hr'
    · rw [hp, hr] at hr'; cases hr'
  · refine H (-2) n sy fi se l kd aa bb G (fun post h => yc_make (sy := sy) (fi := fi) (se := se) hn bk ba bbb bl hV _ _ _ _ _ _ _ _ q1.2.2.2.1 q1.2.2.2.2.1 q1.2.2.2.2.2 post (fun r' hr' => ?_) (fun _ _ => h) (fun _ hlt => ?_))
    · rw [hp, hr] at hr'; cases hr'
    · omega
  · have hE' : cl_E (n + 1) (pt_u sy n s) (pt_u fi n f) (pt_u se n g) (pt_u kd n x) (pt_u aa n y) (pt_u bb n z) := by
      refine mk_E hE hN (fun j hj hh => ?_)
      obtain ⟨r, hr'⟩ := pt_s_ex (p := fun j => decide (kd j = x ∧ aa j = y ∧ bb j = z)) n 0 j (by omega) (by omega) (decide_eq_true hh)
      rw [hp, hr] at hr'
      cases hr'
    have bu : pt_B (pt_u l n n) := pt_uB bl (by omega)
    refine H (nI n) (n + 1) _ _ _ l' _ _ _ ⟨by omega, hc, ⟨pt_uB bs q1.1, pt_uB bf (by omega), pt_uB be (by omega), cl_B (by omega) bu hI, bt, pt_uB bk q1.2.2.2.1, pt_uB ba q1.2.2.2.2.1, pt_uB bbb q1.2.2.2.2.2⟩, hE', hI.1, hK', hT⟩ (fun post h => yc_make hn bk ba bbb bl hV _ _ _ _ _ _ _ _ q1.2.2.2.1 q1.2.2.2.2.1 q1.2.2.2.2.2 post (fun r' hr' => ?_) (fun _ hr' => ?_) (fun _ _ => ⟨hE', fun l'' hI'' hK'' => ?_⟩))
    · rw [hp, hr] at hr'; cases hr'
    · omega
    · rw [cl_U hI'' hK'' hI hK']; exact h
theorem xi_no {tc : Int32} {sy fi se la tk bd vl : Nat → Int32} {post : Int32 → Prop} {n : Nat} {p : Int32} (h : p < 0 ∨ nI n ≤ p) (h0 : post 0) : wpX_isNode post (nI n, tc, sy, fi, se, la, tk, bd, vl) p := by
  by_cases e : p < 0
  · exact br_t e h0
  · exact br_f e (br_t (h.resolve_left e) h0)
theorem xi_yes {tc : Int32} {sy fi se la tk bd vl : Nat → Int32} {post : Int32 → Prop} {n j : Nat} (hn : n ≤ 20) (h : j < n) (h1 : post 1) : wpX_isNode post (nI n, tc, sy, fi, se, la, tk, bd, vl) (nI j) :=
  br_f (nI_pos (by omega)) (br_f (nI_ge h (by omega)) h1)
theorem yi_no {tc w ct fd : Int32} {kd aa bb la tk bd kp st : Nat → Int32} {post : Int32 → Prop} {n : Nat} {p : Int32} (h : p < 0 ∨ nI n ≤ p) (h0 : post 0) : wpY_isNode post (nI n, tc, w, ct, fd, kd, aa, bb, la, tk, bd, kp, st) p := by
  by_cases e : p < 0
  · exact br_t e h0
  · exact br_f e (br_t (h.resolve_left e) h0)
theorem yi_yes {tc w ct fd : Int32} {kd aa bb la tk bd kp st : Nat → Int32} {post : Int32 → Prop} {n j : Nat} (hn : n ≤ 20) (h : j < n) (h1 : post 1) : wpY_isNode post (nI n, tc, w, ct, fd, kd, aa, bb, la, tk, bd, kp, st) (nI j) :=
  br_f (nI_pos (by omega)) (br_f (nI_ge h (by omega)) h1)
theorem ni_cs (p : Int32) {n : Nat} (hn : n ≤ 20) : (p < 0 ∨ nI n ≤ p) ∨ ∃ j : Nat, j < n ∧ p = nI j := by
  rcases pk_ix p (n := n) (by omega) with h | h | h
  · exact Or.inl (Or.inl h)
  · exact Or.inl (Or.inr h)
  · exact Or.inr h
theorem ys_Q1 {n c : Nat} {sy fi se l tk : Nat → Nat} : ys_Q n c sy fi se l tk (-1) (ev_q n c sy fi se l tk) := by
  intro s hs
  refine ⟨fun h => ?_, fun v h => ?_⟩
  · unfold ev_q; rw [h]; rfl
  · unfold ev_q
    rw [h]
    exact ⟨fun _ => Or.inl (by decide), fun _ => rfl⟩
theorem ys_Q2 {n c : Nat} {sy fi se l tk : Nat → Nat} (bl : pt_B l) (a : Nat) : ys_Q n c sy fi se l tk (nI (l a)) (ev_qa n c sy fi se l tk (l a)) := by
  intro s hs
  have b := bl a
  refine ⟨fun h => ?_, fun v h => ?_⟩
  · exact decide_eq_false (by rw [h]; exact fun z => nomatch z)
  · have hv := ev_Vb bl hs h
    unfold ev_qa
    rw [h]
    refine ⟨fun z => Or.inr ?_, fun z => decide_eq_true ?_⟩
    · have := of_decide_eq_true z
      cases this
      rfl
    · rw [(nI_eq (by omega) (by omega)).mp (z.resolve_left (nI_pos (by omega)))]
def tk_ok (t : Nat) : Prop := t < 3 ∨ 10 ≤ t ∧ t < 16 ∨ t = 20 ∨ t = 21
theorem tk_17 {t : Nat} (ht : t < 2 ^ 31) (z : Nat) (hz : z < 2) (nc tc : Int32) (sy fi se la tk bd vl : Nat → Int32) (post : Int32 → Prop) (h1 : (t < 3 ∨ z = 1 ∨ t = 20 ∨ t = 21) → post 1) (h0 : ¬ (t < 3 ∨ z = 1 ∨ t = 20 ∨ t = 21) → post 0) :
    wX_isToken_17 post (nI t) (nI z) nc tc sy fi se la tk bd vl := by
  refine br_f (c := nI t < 0) (nI_pos ht) (pk_le 3 t (fun e => ?_) (fun e => ?_))
  · exact br_t rfl (pk_eq z 0 (fun e0 => pk_eq t 20 (fun e1 => h1 (by omega)) (fun e1 => pk_eq t 21 (fun e2 => h1 (by omega)) (fun e2 => h0 (by omega)))) (fun e0 => h1 (by omega)))
  · exact br_f (by decide) (h1 (by omega))
theorem tk_X (p : Int32) (u : SX) (post : Int32 → Prop) (h1 : ∀ t, p = nI t → tk_ok t → post 1) (h0 : (∀ t, p = nI t → ¬ tk_ok t) → post 0) : wpX_isToken post u p := by
  obtain ⟨_, _, _, _, _, _, _, _, _⟩ := u
  by_cases n0 : p < 0
  · have hno : post 0 := h0 (fun t e ht => by
      rw [e] at n0
      exact absurd n0 (nI_pos (by unfold tk_ok at ht; omega)))
    have p10 : p < 10 := Int32.lt_of_lt_of_le n0 (by decide)
    refine br_t p10 ?_
    refine br_t (c := p < 0) n0 ?_
    refine br_t rfl ?_
    refine br_t rfl ?_
    refine br_f (fun e => by rw [e] at n0; exact absurd n0 (by decide)) ?_
    exact br_f (fun e => by rw [e] at n0; exact absurd n0 (by decide)) hno
  · obtain ⟨t, ht, rfl⟩ := nI_of n0
    have yes : tk_ok t → post 1 := h1 t rfl
    have no : ¬ tk_ok t → post 0 := fun z => h0 (fun t' e ht' => by
      rw [nI_eq ht (by unfold tk_ok at ht'; omega)] at e
      exact z (e ▸ ht'))
    unfold tk_ok at yes no
    refine pk_lt t 10 (fun e => ?_) (fun e => pk_le 16 t (fun e2 => ?_) (fun e2 => ?_))
    · exact tk_17 ht 0 (by omega) _ _ _ _ _ _ _ _ _ post (fun z => yes (by omega)) (fun z => no (by omega))
    · exact tk_17 ht 0 (by omega) _ _ _ _ _ _ _ _ _ post (fun z => yes (by omega)) (fun z => no (by omega))
    · exact tk_17 ht 1 (by omega) _ _ _ _ _ _ _ _ _ post (fun z => yes (by omega)) (fun z => no (by omega))
theorem tk_Y (p : Int32) (post : Int32 → SY → Prop) (n tc w ct fd : Int32) (kd aa bb la tk bd kp st : Nat → Int32) (y7 : ¬ tc = 7) (h1 : (∃ t, p = nI t ∧ tk_ok t) → wY_token_47 post p n tc w ct fd kd aa bb la tk bd kp st) (h0 : (∀ t, p = nI t → ¬ tk_ok t) → post (-1) (n, tc, w, ct, fd, kd, aa, bb, la, tk, bd, kp, st)) :
    wpY_token post (n, tc, w, ct, fd, kd, aa, bb, la, tk, bd, kp, st) p := by
  by_cases n0 : p < 0
  · exact br_f y7 (br_t n0 (h0 (fun t e ht => by
      rw [e] at n0
      exact absurd n0 (nI_pos (by unfold tk_ok at ht; omega)))))
  · obtain ⟨t, ht, rfl⟩ := nI_of n0
    have yes : tk_ok t → wY_token_47 post (nI t) n tc w ct fd kd aa bb la tk bd kp st := fun z => h1 ⟨t, rfl, z⟩
    have no : ¬ tk_ok t → post (-1) (n, tc, w, ct, fd, kd, aa, bb, la, tk, bd, kp, st) := fun z => h0 (fun t' e ht' => by
      rw [nI_eq ht (by unfold tk_ok at ht'; omega)] at e
      exact z (e ▸ ht'))
    unfold tk_ok at yes no
    have t33 : (t ≤ 2 ∨ 10 ≤ t) → t ≤ 21 → wY_token_33 post (nI t) n tc w ct fd kd aa bb la tk bd kp st :=
      fun a b => pk_le t 15 (fun e => yes (by omega)) (fun e => pk_le 20 t (fun e2 => yes (by omega)) (fun e2 => no (by omega)))
    exact br_f y7 (br_f n0 (pk_lt 21 t (fun e => no (by omega)) (fun e => pk_le t 2 (fun e2 => t33 (by omega) (by omega)) (fun e2 => pk_lt t 10 (fun e3 => no (by omega)) (fun e3 => t33 (by omega) (by omega))))))
end
section
def i_Rel (k : Nat) (u : SX) (v : SY) : Prop :=
  ∃ (n c : Nat) (sy fi se l tk kd aa bb : Nat → Nat) (bd vl : Nat → Int32) (w ct fd : Int32) (bd' kp st : Nat → Int32),
    u = (nI n, nI c, pt_f sy, pt_f fi, pt_f se, pt_f l, pt_f tk, bd, vl) ∧ v = (nI n, nI c, w, ct, fd, pt_f kd, pt_f aa, pt_f bb, pt_f l, pt_f tk, bd', kp, st) ∧ pt_G n c sy fi se l tk kd aa bb
theorem i_up {k : Nat} {u : SX} {v : SY} (h : i_Rel k u v) : i_Rel (k + 3) u v := h
theorem rl_m {k n c : Nat} {sy fi se l tk kd aa bb : Nat → Nat} (G : pt_G n c sy fi se l tk kd aa bb) (bd vl : Nat → Int32) (w ct fd : Int32) (bd' kp st : Nat → Int32) :
    i_Rel k (nI n, nI c, pt_f sy, pt_f fi, pt_f se, pt_f l, pt_f tk, bd, vl) (nI n, nI c, w, ct, fd, pt_f kd, pt_f aa, pt_f bb, pt_f l, pt_f tk, bd', kp, st) :=
  ⟨n, c, sy, fi, se, l, tk, kd, aa, bb, bd, vl, w, ct, fd, bd', kp, st, rfl, rfl, G⟩
theorem i_vc0 : wpX_init (fun u => wpY_init (fun v => i_Rel 0 u v)) := by
  have b : pt_B (fun _ => 0) := fun _ => by show 0 < 100; omega
  refine rl_m (k := 0) (n := 0) (c := 0) (sy := fun _ => 0) (fi := fun _ => 0) (se := fun _ => 0) (l := fun _ => 0) (tk := fun _ => 0) (kd := fun _ => 0) (aa := fun _ => 0) (bb := fun _ => 0) ⟨by omega, by omega, ⟨b, b, b, b, b, b, b, b⟩, ⟨?_, ?_⟩, ?_, ?_, ?_⟩ _ _ _ _ _ _ _ _
  · intro k hk; exact absurd hk (Nat.not_lt_zero _)
  · intro i j hi; exact absurd hi (Nat.not_lt_zero _)
  · intro i hi; exact absurd hi (Nat.not_lt_zero _)
  · intro i j hi; exact absurd hi (Nat.not_lt_zero _)
  · intro i hi; exact absurd hi (Nat.not_lt_zero _)
theorem i_vc_constant {k : Nat} {u : SX} {v : SY} (I : i_Rel k u v) (hk : k + 3 ≤ 1536) (v1 : Int32) : wpX_constant (fun r u' => wpY_constant (fun r' v' => r' = r ∧ i_Rel (k + 3) u' v') v v1) u v1 := by
  obtain ⟨n, c, sy, fi, se, l, tk, kd, aa, bb, bd, vl, w, ct, fd, bd', kp, st, rfl, rfl, G⟩ := I
  by_cases h0 : v1 < 0
  · exact br_t h0 (br_t h0 ⟨rfl, rl_m G _ _ _ _ _ _ _ _⟩)
  · obtain ⟨j, hj, rfl⟩ := nI_of h0
    by_cases h6 : j < 6
    · refine br_f h0 (br_t (nI_lt (b := 6) h6 (by omega)) ?_)
      rw [show (10 : Int32) + nI j = nI (10 + j) from nI_add 10 j]
      refine mk_X G (f := 0) (g := 0) (x := 0) (y := j) (z := 0) (by omega) bd vl w ct fd bd' kp st _ (fun r n' sy' fi' se' l' kd' aa' bb' G' hY => ?_)
      exact br_f h0 (br_t (nI_le (b := 5) (by omega) (by omega)) (hY _ ⟨rfl, rl_m G' _ _ _ _ _ _ _ _⟩))
    · exact br_f h0 (br_f (nI_nlt (b := 6) (by omega) hj) (br_f h0 (br_f (nI_ge (a := 5) (by omega) hj) ⟨rfl, rl_m G _ _ _ _ _ _ _ _⟩)))
theorem i_vc_one {k : Nat} {u : SX} {v : SY} (I : i_Rel k u v) (hk : k + 3 ≤ 1536) (v1 : Int32) : wpX_one (fun r u' => wpY_one (fun r' v' => r' = r ∧ i_Rel (k + 3) u' v') v v1) u v1 := by
  obtain ⟨n, c, sy, fi, se, l, tk, kd, aa, bb, bd, vl, w, ct, fd, bd', kp, st, rfl, rfl, G⟩ := I
  unfold wpX_one wpY_one
  dsimp only
  rcases ni_cs v1 G.1 with h | ⟨j, hj, rfl⟩
  · refine xi_no h ?_
    refine br_t rfl ?_
    refine yi_no h ?_
    refine br_t rfl ?_
    exact ⟨rfl, rl_m G _ _ _ _ _ _ _ _⟩
  · refine xi_yes G.1 hj ?_
    refine br_f (by decide) ?_
    refine mk_X G (s := 20) (f := j) (g := 0) (x := 1) (y := j) (z := 0) (by omega) bd vl w ct fd bd' kp st _ (fun r n' sy' fi' se' l' kd' aa' bb' G' hY => ?_)
    refine yi_yes G.1 hj ?_
    refine br_f (by decide) ?_
    refine hY _ ?_
    exact ⟨rfl, rl_m G' _ _ _ _ _ _ _ _⟩
theorem i_vc_two {k : Nat} {u : SX} {v : SY} (I : i_Rel k u v) (hk : k + 3 ≤ 1536) (v1 : Int32) (v2 : Int32) : wpX_two (fun r u' => wpY_two (fun r' v' => r' = r ∧ i_Rel (k + 3) u' v') v v1 v2) u v1 v2 := by
  obtain ⟨n, c, sy, fi, se, l, tk, kd, aa, bb, bd, vl, w, ct, fd, bd', kp, st, rfl, rfl, G⟩ := I
  unfold wpX_two wpY_two
  dsimp only
  rcases ni_cs v1 G.1 with h | ⟨j, hj, rfl⟩
  · refine xi_no h ?_
    refine br_t rfl ?_
    refine yi_no h ?_
    refine br_t rfl ?_
    exact ⟨rfl, rl_m G _ _ _ _ _ _ _ _⟩
  · rcases ni_cs v2 G.1 with h | ⟨m, hm, rfl⟩
    · refine xi_yes G.1 hj ?_
      refine br_f (by decide) ?_
      refine xi_no h ?_
      refine br_t rfl ?_
      refine yi_yes G.1 hj ?_
      refine br_f (by decide) ?_
      refine yi_no h ?_
      refine br_t rfl ?_
      exact ⟨rfl, rl_m G _ _ _ _ _ _ _ _⟩
    · refine xi_yes G.1 hj ?_
      refine br_f (by decide) ?_
      refine xi_yes G.1 hm ?_
      refine br_f (by decide) ?_
      refine mk_X G (s := 21) (f := j) (g := m) (x := 2) (y := j) (z := m) (by omega) bd vl w ct fd bd' kp st _ (fun r n' sy' fi' se' l' kd' aa' bb' G' hY => ?_)
      refine yi_yes G.1 hj ?_
      refine br_f (by decide) ?_
      refine yi_yes G.1 hm ?_
      refine br_f (by decide) ?_
      refine hY _ ?_
      exact ⟨rfl, rl_m G' _ _ _ _ _ _ _ _⟩
theorem i_vc_equate {k : Nat} {u : SX} {v : SY} (I : i_Rel k u v) (hk : k + 3 ≤ 1536) (v1 : Int32) (v2 : Int32) : wpX_equate (fun r u' => wpY_equate (fun r' v' => r' = r ∧ i_Rel (k + 3) u' v') v v1 v2) u v1 v2 := by
  obtain ⟨n, c, sy, fi, se, l, tk, kd, aa, bb, bd, vl, w, ct, fd, bd', kp, st, rfl, rfl, G⟩ := I
  unfold wpX_equate wpY_equate
  dsimp only
  rcases ni_cs v1 G.1 with h | ⟨j, hj, rfl⟩
  · refine xi_no h ?_
    refine br_t rfl ?_
    refine yi_no h ?_
    refine br_t rfl ?_
    exact ⟨rfl, rl_m G _ _ _ _ _ _ _ _⟩
  · rcases ni_cs v2 G.1 with h | ⟨m, hm, rfl⟩
    · refine xi_yes G.1 hj ?_
      refine br_f (by decide) ?_
      refine xi_no h ?_
      refine br_t rfl ?_
      refine yi_yes G.1 hj ?_
      refine br_f (by decide) ?_
      refine yi_no h ?_
      refine br_t rfl ?_
      exact ⟨rfl, rl_m G _ _ _ _ _ _ _ _⟩
    · have G' := G
      obtain ⟨hn, hc, ⟨bs, bf, be, bl, bt, bk, ba, bbb⟩, hE, hV, hK, hT⟩ := G'
      have hV' := cl_JV hV hj hm
      have bJ : pt_B (cl_J n (l j) (l m) l) := by
        intro i
        have := bl i
        have := bl j
        have := bl m
        by_cases z : i < n ∧ (l i = l j ∨ l i = l m)
        · rw [cl_Jt z.1 z.2]
          have := (cl_mn (l j) (l m)).2.1
          omega
        · rw [cl_Jf z]; omega
      refine xi_yes hn hj ?_
      refine br_f (by decide) ?_
      refine xi_yes hn hm ?_
      refine br_f (by decide) ?_
      refine xc_join hn bl _ _ _ _ _ _ _ (by omega) (by omega) _ ?_
      refine xc_close hn (by omega) bs bJ hV' (cl_Ec hE) _ _ _ _ _ (fun l' hI' hK' => ?_)
      have bl' := cl_B hn bJ hI'
      refine xc_count hn bl' _ _ _ _ _ _ _ _ ?_
      refine yi_yes hn hj ?_
      refine br_f (by decide) ?_
      refine yi_yes hn hm ?_
      refine br_f (by decide) ?_
      refine yc_join hn bl _ _ _ _ _ _ _ _ _ _ _ (by omega) (by omega) _ ?_
      refine yc_close hn (by omega) bk bJ hV' hE _ _ _ _ _ _ _ _ _ (fun l'' hI'' hK'' => ?_)
      rw [cl_U hI'' hK'' hI' hK']
      refine yc_count hn bl' _ _ _ _ _ _ _ _ _ _ _ _ ?_
      exact ⟨rfl, rl_m ⟨hn, hc, ⟨bs, bf, be, bl', bt, bk, ba, bbb⟩, hE, hI'.1, hK', hT⟩ _ _ _ _ _ _ _ _⟩
theorem i_vc_leader {k : Nat} {u : SX} {v : SY} (I : i_Rel k u v) (hk : k + 3 ≤ 1536) (v1 : Int32) : wpX_leader (fun r => wpY_leader (fun r' => r' = r ∧ i_Rel (k + 3) u v) v v1) u v1 := by
  have I' : i_Rel (k + 3) u v := I
  obtain ⟨n, c, sy, fi, se, l, tk, kd, aa, bb, bd, vl, w, ct, fd, bd', kp, st, rfl, rfl, G⟩ := I
  unfold wpX_leader wpY_leader
  dsimp only
  rcases ni_cs v1 G.1 with h | ⟨j, hj, rfl⟩
  · refine xi_no h ?_
    refine br_t rfl ?_
    refine yi_no h ?_
    refine br_t rfl ?_
    exact ⟨rfl, I'⟩
  · have hn := G.1
    have hi : vp_in (nI j) 20 := vp_in_nI (by omega) (by omega)
    refine xi_yes hn hj ?_
    refine br_f (by decide) ⟨hi, ?_⟩
    refine yi_yes hn hj ?_
    exact br_f (by decide) ⟨hi, rfl, I'⟩
theorem i_vc_classes {k : Nat} {u : SX} {v : SY} (I : i_Rel k u v) (hk : k + 3 ≤ 1536) : wpX_classes (fun r => wpY_classes (fun r' => r' = r ∧ i_Rel (k + 3) u v) v) u := by
  have I' : i_Rel (k + 3) u v := I
  obtain ⟨n, c, sy, fi, se, l, tk, kd, aa, bb, bd, vl, w, ct, fd, bd', kp, st, rfl, rfl, G⟩ := I
  unfold wpX_classes wpY_classes
  dsimp only
  have bl := G.2.2.1.2.2.2.1
  refine xc_count G.1 bl _ _ _ _ _ _ _ _ ?_
  refine yc_count G.1 bl _ _ _ _ _ _ _ _ _ _ _ _ ?_
  exact ⟨rfl, I'⟩
theorem i_vc_token {k : Nat} {u : SX} {v : SY} (I : i_Rel k u v) (hk : k + 3 ≤ 1536) (v1 : Int32) : wpX_token (fun r u' => wpY_token (fun r' v' => r' = r ∧ i_Rel (k + 3) u' v') v v1) u v1 := by
  obtain ⟨n, c, sy, fi, se, l, tk, kd, aa, bb, bd, vl, w, ct, fd, bd', kp, st, rfl, rfl, G⟩ := I
  unfold wpX_token
  dsimp only
  have G' := G
  obtain ⟨hn, hc, ⟨bs, bf, be, bl, bt, bk, ba, bbb⟩, hE, hV, hK, hT⟩ := G'
  by_cases h7 : c = 7
  · subst h7
    exact br_f (by decide +kernel) (br_t rfl ⟨rfl, rl_m G _ _ _ _ _ _ _ _⟩)
  · have c7 : c < 7 := by omega
    have hi : vp_in (nI c) 7 := vp_in_nI c7 (by omega)
    have y7 : ¬ nI c = 7 := fun z => h7 ((nI_eq (b := 7) (by omega) (by omega)).mp z)
    refine br_t (nI_lt (b := 7) c7 (by omega)) ?_
    refine tk_X v1 _ _ (fun t e ht => ?_) (fun hno => ?_)
    · subst e
      have t22 : t < 22 := by unfold tk_ok at ht; omega
      have Gn : pt_G n (c + 1) sy fi se l (pt_u tk c t) kd aa bb := by
        refine ⟨hn, by omega, ⟨bs, bf, be, bl, pt_uB bt (by omega), bk, ba, bbb⟩, hE, hV, hK, ?_⟩
        intro j hj
        by_cases e : j = c
        · subst e; rw [pt_us]; exact ht
        · rw [pt_un e]; exact hT j (by omega)
      refine br_f (by decide) ⟨hi, nm_r (pt_up tk t (by omega)) (nm_r (nI_1 c) ?_)⟩
      refine tk_Y (nI t) _ _ _ _ _ _ _ _ _ _ _ _ _ _ y7 (fun _ => ⟨hi, nm_r (pt_up tk t (by omega)) (nm_r (nI_1 c) ⟨rfl, rl_m Gn _ _ _ _ _ _ _ _⟩)⟩) (fun hno => absurd ht (hno t rfl))
    · refine br_t rfl ?_
      refine tk_Y v1 _ _ _ _ _ _ _ _ _ _ _ _ _ _ y7 (fun ⟨t, e, ht⟩ => absurd ht (hno t e)) (fun _ => ⟨rfl, rl_m G _ _ _ _ _ _ _ _⟩)
theorem i_vc_wipe {k : Nat} {u : SX} {v : SY} (I : i_Rel k u v) (hk : k + 3 ≤ 1536) : wpX_wipe (fun r u' => wpY_wipe (fun r' v' => r' = r ∧ i_Rel (k + 3) u' v') v) u := by
  obtain ⟨n, c, sy, fi, se, l, tk, kd, aa, bb, bd, vl, w, ct, fd, bd', kp, st, rfl, rfl, G⟩ := I
  obtain ⟨hn, hc, hB, hE, hV, hK, hT⟩ := G
  exact ⟨rfl, rl_m (c := 0) ⟨hn, by omega, hB, hE, hV, hK, fun j hj => absurd hj (Nat.not_lt_zero _)⟩ _ _ _ _ _ _ _ _⟩
theorem i_vc_matches {k : Nat} {u : SX} {v : SY} (I : i_Rel k u v) (hk : k + 3 ≤ 1536) : wpX_matches (fun r u' => wpY_matches (fun r' v' => r' = r ∧ i_Rel (k + 3) u' v') v) u := by
  obtain ⟨n, c, sy, fi, se, l, tk, kd, aa, bb, bd, vl, w, ct, fd, bd', kp, st, rfl, rfl, G⟩ := I
  unfold wpX_matches wpY_matches
  dsimp only
  have hc := G.2.1
  have bt := G.2.2.1.2.2.2.2.1
  have hT := G.2.2.2.2.2.2
  refine xw_whole hc bt _ _ _ _ _ _ _ _ (fun hW => ?_) (fun hW => ?_)
  · refine br_f (by decide) ⟨8000 + 1, xm_14 G hW _ (fun bd vl => ?_) 8000 0 bd vl (by omega)⟩
    refine yw_whole hc bt hT _ _ _ _ _ _ _ _ _ _ _ _ (fun _ => ?_) (fun z => absurd hW z)
    refine br_f (by decide) ?_
    exact ys_search G hW (-1) (-1) (ev_q n c sy fi se l tk) ys_Q1 _ _ _ _ _ _ _ (fun bd kp sa _ => ⟨rfl, rl_m G _ _ _ _ _ _ _ _⟩)
  · refine br_t rfl ?_
    refine yw_whole hc bt hT _ _ _ _ _ _ _ _ _ _ _ _ (fun z => absurd z hW) (fun _ => ?_)
    exact br_t rfl ⟨rfl, rl_m G _ _ _ _ _ _ _ _⟩
theorem i_vc_matchesAt {k : Nat} {u : SX} {v : SY} (I : i_Rel k u v) (hk : k + 3 ≤ 1536) (v1 : Int32) : wpX_matchesAt (fun r u' => wpY_matchesAt (fun r' v' => r' = r ∧ i_Rel (k + 3) u' v') v v1) u v1 := by
  obtain ⟨n, c, sy, fi, se, l, tk, kd, aa, bb, bd, vl, w, ct, fd, bd', kp, st, rfl, rfl, G⟩ := I
  unfold wpX_matchesAt wpY_matchesAt
  dsimp only
  have hn := G.1
  have hc := G.2.1
  have bl := G.2.2.1.2.2.2.1
  have bt := G.2.2.1.2.2.2.2.1
  have hT := G.2.2.2.2.2.2
  rcases ni_cs v1 hn with h | ⟨j, hj, rfl⟩
  · refine xi_no h ?_
    refine br_t rfl ?_
    refine yi_no h ?_
    refine br_t rfl ?_
    exact ⟨rfl, rl_m G _ _ _ _ _ _ _ _⟩
  · refine xi_yes hn hj ?_
    refine br_f (by decide) ?_
    refine xw_whole hc bt _ _ _ _ _ _ _ _ (fun hW => ?_) (fun hW => ?_)
    · refine br_f (by decide) ⟨8000 + 1, xm_24 G hW hj _ (fun bd vl => ?_) 8000 0 bd vl (by omega)⟩
      refine yi_yes hn hj ?_
      refine br_f (by decide) ?_
      refine yw_whole hc bt hT _ _ _ _ _ _ _ _ _ _ _ _ (fun _ => ?_) (fun z => absurd hW z)
      refine br_f (by decide) ⟨vp_in_nI (by omega) (by omega), ?_⟩
      rw [pt_at l (by omega)]
      exact ys_search G hW (-1) (nI (l j)) (ev_qa n c sy fi se l tk (l j)) (ys_Q2 bl j) _ _ _ _ _ _ _ (fun bd kp sa _ => ⟨rfl, rl_m G _ _ _ _ _ _ _ _⟩)
    · refine br_t rfl ?_
      refine yi_yes hn hj ?_
      refine br_f (by decide) ?_
      refine yw_whole hc bt hT _ _ _ _ _ _ _ _ _ _ _ _ (fun z => absurd z hW) (fun _ => ?_)
      exact br_t rfl ⟨rfl, rl_m G _ _ _ _ _ _ _ _⟩
theorem i_vc_binding {k : Nat} {u : SX} {v : SY} (I : i_Rel k u v) (hk : k + 3 ≤ 1536) (v1 : Int32) (v2 : Int32) : wpX_binding (fun r u' => wpY_binding (fun r' v' => r' = r ∧ i_Rel (k + 3) u' v') v v1 v2) u v1 v2 := by
  obtain ⟨n, c, sy, fi, se, l, tk, kd, aa, bb, bd, vl, w, ct, fd, bd', kp, st, rfl, rfl, G⟩ := I
  unfold wpX_binding wpY_binding
  dsimp only
  have hn := G.1
  have hc := G.2.1
  have bl := G.2.2.1.2.2.2.1
  have bt := G.2.2.1.2.2.2.2.1
  have hT := G.2.2.2.2.2.2
  by_cases n0 : v2 < 0
  · refine br_t (c := v2 < 0) n0 ?_
    refine br_t rfl ?_
    exact br_t n0 ⟨rfl, rl_m G _ _ _ _ _ _ _ _⟩
  · obtain ⟨v, hv, rfl⟩ := nI_of n0
    by_cases h3 : v < 3
    · have y2 : nI v ≤ 2 := nI_le (b := 2) (by omega) (by omega)
      refine xv_isVar (by omega) _ _ (fun _ => ?_) (fun z => absurd h3 z)
      refine br_f (by decide) ?_
      refine xw_whole hc bt _ _ _ _ _ _ _ _ (fun hW => ?_) (fun hW => ?_)
      · refine br_f (by decide) ?_
        refine xw_has hc bt _ _ _ _ _ _ _ (by omega) _ (fun hH => ?_) (fun hH => ?_)
        · have cl := pt_c_le (ev_q n c sy fi se l tk) 8000
          refine br_f (by decide) ⟨8000 + 1, xm_33 G hW v1 h3 _ (fun s hs hq e bd vl => ?_) (fun hno bd vl => ?_) 8000 0 bd vl (by omega) (fun j hj => absurd hj (Nat.not_lt_zero _))⟩
          · have l1 := pt_c_lt hs hq
            refine br_f n0 (br_t y2 ?_)
            refine yw_whole hc bt hT _ _ _ _ _ _ _ _ _ _ _ _ (fun _ => ?_) (fun z => absurd hW z)
            refine br_f (by decide) ?_
            refine yw_has hc bt _ _ _ _ _ _ _ _ _ _ _ (by omega) _ (fun _ => ?_) (fun z => absurd hH z)
            refine br_f (by decide) (br_t (by rw [← e]; exact nI_pos' (by omega)) ?_)
            refine ys_search G hW v1 (-1) (ev_q n c sy fi se l tk) ys_Q1 _ _ _ _ _ _ _ (fun bd kp sa hI => ?_)
            refine br_f (by rw [← e]; exact nI_ge l1 (by omega)) ⟨vp_in_nI h3 (by omega), ?_⟩
            refine ⟨?_, rl_m G _ _ _ _ _ _ _ _⟩
            rw [nI_clamp hv]
            exact hI s hs hq e v h3
          · refine br_f n0 (br_t y2 ?_)
            refine yw_whole hc bt hT _ _ _ _ _ _ _ _ _ _ _ _ (fun _ => ?_) (fun z => absurd hW z)
            refine br_f (by decide) ?_
            refine yw_has hc bt _ _ _ _ _ _ _ _ _ _ _ (by omega) _ (fun _ => ?_) (fun z => absurd hH z)
            refine br_f (by decide) (br_c (fun hp => ?_) (fun _ => ⟨rfl, rl_m G _ _ _ _ _ _ _ _⟩))
            refine ys_search G hW v1 (-1) (ev_q n c sy fi se l tk) ys_Q1 _ _ _ _ _ _ _ (fun bd kp sa hI => ?_)
            refine br_t ?_ ⟨rfl, rl_m G _ _ _ _ _ _ _ _⟩
            obtain ⟨m, hm, rfl⟩ := nI_of (Int32.not_lt.mpr hp)
            refine nI_le ?_ hm
            refine Nat.le_of_not_lt (fun hlt => ?_)
            obtain ⟨s, a, b, d⟩ := pt_c_ex 8000 m hlt
            exact hno s a b (by rw [d])
        · refine br_t rfl ?_
          refine br_f n0 (br_t y2 ?_)
          refine yw_whole hc bt hT _ _ _ _ _ _ _ _ _ _ _ _ (fun _ => ?_) (fun z => absurd hW z)
          refine br_f (by decide) ?_
          refine yw_has hc bt _ _ _ _ _ _ _ _ _ _ _ (by omega) _ (fun z => absurd z hH) (fun _ => ?_)
          exact br_t rfl ⟨rfl, rl_m G _ _ _ _ _ _ _ _⟩
      · refine br_t rfl ?_
        refine br_f n0 (br_t y2 ?_)
        refine yw_whole hc bt hT _ _ _ _ _ _ _ _ _ _ _ _ (fun z => absurd z hW) (fun _ => ?_)
        exact br_t rfl ⟨rfl, rl_m G _ _ _ _ _ _ _ _⟩
    · have x3 : (3 : Int32) ≤ nI v := nI_le (a := 3) (by omega) (by omega)
      refine br_f (c := nI v < 0) n0 (br_t x3 ?_)
      refine br_t rfl ?_
      exact br_f n0 (br_f (nI_ge (a := 2) (by omega) hv) ⟨rfl, rl_m G _ _ _ _ _ _ _ _⟩)
theorem i_vc_clear {k : Nat} {u : SX} {v : SY} (I : i_Rel k u v) (hk : k + 3 ≤ 1536) : wpX_clear (fun r u' => wpY_clear (fun r' v' => r' = r ∧ i_Rel (k + 3) u' v') v) u := by
  obtain ⟨n, c, sy, fi, se, l, tk, kd, aa, bb, bd, vl, w, ct, fd, bd', kp, st, rfl, rfl, G⟩ := I
  obtain ⟨hn, hc, hB, hE, hV, hK, hT⟩ := G
  exact ⟨rfl, rl_m (n := 0) ⟨by omega, hc, hB, ⟨fun j hj => absurd hj (Nat.not_lt_zero _), fun i j hj => absurd hj (Nat.not_lt_zero _)⟩, fun j hj => absurd hj (Nat.not_lt_zero _), fun i j hj => absurd hj (Nat.not_lt_zero _), hT⟩ _ _ _ _ _ _ _ _⟩
end
