section
theorem pk_us {f : Nat → Int32} {k : Nat} {x : Int32} : upd f k x k = x := if_pos rfl
theorem pk_un {f : Nat → Int32} {k j : Nat} {x : Int32} (h : j ≠ k) : upd f k x j = f j := if_neg h
theorem pk_sub {a b : Nat} (h : b ≤ a) : nI a - nI b = nI (a - b) := by
  obtain ⟨c, rfl⟩ : ∃ c, a = c + b := ⟨a - b, by omega⟩
  rw [← nI_add, Int32.add_sub_cancel, Nat.add_sub_cancel]
theorem pk_m1 (n : Nat) : nI (n + 1) + (-1) = nI n := by
  rw [← nI_1, Int32.add_assoc, show (1 : Int32) + (-1) = 0 from rfl, Int32.add_zero]
theorem pk_mul (a b : Nat) : nI a * nI b = nI (a * b) := (Int32.ofNat_mul a b).symm
theorem pk_div {a d : Nat} (ha : a < 2 ^ 31) (h0 : 0 < d) (hd : d < 2 ^ 31) : nI a / nI d = nI (a / d) := by
  apply Int32.toInt_inj.mp
  rw [lg_idiv_nonneg (by rw [nI_toInt ha]; omega) (by rw [nI_toInt hd]; omega), nI_toInt ha, nI_toInt hd, nI_toInt (Nat.lt_of_le_of_lt (Nat.div_le_self a d) ha)]
  first | rfl | exact (Int.natCast_ediv _ _).symm
theorem pk_rem {a d : Nat} (ha : a < 2 ^ 31) (h0 : 0 < d) (hd : d < 2 ^ 31) : nI a - nI a / nI d * nI d = nI (a % d) := by
  rw [pk_div ha h0 hd, pk_mul, pk_sub (Nat.div_mul_le_self a d)]
  exact congrArg nI (by have := Nat.div_add_mod' a d; omega)
theorem pk_ix (x : Int32) {n : Nat} (hn : n < 2 ^ 31) : x < 0 ∨ nI n ≤ x ∨ ∃ j : Nat, j < n ∧ x = nI j := by
  by_cases h : x < 0
  · exact Or.inl h
  · obtain ⟨j, hj, rfl⟩ := nI_of h
    by_cases h2 : j < n
    · exact Or.inr (Or.inr ⟨j, h2, rfl⟩)
    · exact Or.inr (Or.inl (nI_le (by omega) hj))
theorem pk_le {x y : Int32} {A B : Prop} (a b : Nat) (f : a ≤ b → A) (g : b < a → B) (hx : x = nI a := by rfl) (hy : y = nI b := by rfl) (ha : a < 2 ^ 31 := by omega) (hb : b < 2 ^ 31 := by omega) : (x ≤ y → A) ∧ (¬ x ≤ y → B) := by
  subst hx hy
  rw [nI_leI ha hb]
  exact ⟨f, fun z => g (by omega)⟩
theorem pk_lt {x y : Int32} {A B : Prop} (a b : Nat) (f : a < b → A) (g : b ≤ a → B) (hx : x = nI a := by rfl) (hy : y = nI b := by rfl) (ha : a < 2 ^ 31 := by omega) (hb : b < 2 ^ 31 := by omega) : (x < y → A) ∧ (¬ x < y → B) := by
  subst hx hy
  rw [nI_ltI ha hb]
  exact ⟨f, fun z => g (by omega)⟩
theorem pk_eq {x y : Int32} {A B : Prop} (a b : Nat) (f : a = b → A) (g : a ≠ b → B) (hx : x = nI a := by rfl) (hy : y = nI b := by rfl) (ha : a < 2 ^ 31 := by omega) (hb : b < 2 ^ 31 := by omega) : (x = y → A) ∧ (¬ x = y → B) := by
  subst hx hy
  rw [nI_eq ha hb]
  exact ⟨f, g⟩
theorem pk_in {x : Int32} (n N : Nat) (h : n < N) (hx : x = nI n := by rfl) (hN : N < 2 ^ 31 := by omega) : vp_in x N := by
  subst hx
  exact vp_in_nI h hN
theorem pk_cl {x : Int32} (n : Nat) (hx : x = nI n := by rfl) (h : n < 2 ^ 31 := by omega) : x.toNatClampNeg = n := by
  subst hx
  exact nI_clamp h
theorem pt_m1 {j : Nat} (h : j < 2 ^ 31) : ¬ nI j = -1 := by
  intro e
  have h1 := congrArg Int32.toInt e
  rw [nI_toInt h, show ((-1 : Int32)).toInt = -1 from by decide] at h1
  omega
def pt_f (f : Nat → Nat) : Nat → Int32 := fun k => nI (f k)
def pt_B (f : Nat → Nat) : Prop := ∀ k, f k < 100
def pt_u (f : Nat → Nat) (k v : Nat) : Nat → Nat := fun j => if j = k then v else f j
theorem pt_us {f : Nat → Nat} {k v : Nat} : pt_u f k v k = v := if_pos rfl
theorem pt_un {f : Nat → Nat} {k v j : Nat} (h : j ≠ k) : pt_u f k v j = f j := if_neg h
theorem pt_uB {f : Nat → Nat} {k v : Nat} (h : pt_B f) (hv : v < 100) : pt_B (pt_u f k v) := by
  intro j
  unfold pt_u
  split
  · exact hv
  · exact h j
theorem pt_at (f : Nat → Nat) {i : Nat} (h : i < 2 ^ 31) : pt_f f (nI i).toNatClampNeg = nI (f i) := by
  rw [nI_clamp h]; rfl
theorem pt_at2 (l f : Nat → Nat) {i : Nat} (h : i < 2 ^ 31) (h2 : f i < 2 ^ 31) : pt_f l (pt_f f (nI i).toNatClampNeg).toNatClampNeg = nI (l (f i)) := by
  rw [pt_at f h, pt_at l h2]
theorem pt_up (f : Nat → Nat) {i : Nat} (v : Nat) (h : i < 2 ^ 31) : upd (pt_f f) (nI i).toNatClampNeg (nI v) = pt_f (pt_u f i v) := by
  rw [nI_clamp h]
  funext j
  unfold upd pt_f pt_u
  split <;> rfl
def pt_o : Option Nat → Int32
  | none => -1
  | some j => nI j
theorem pt_oI {x y : Option Nat} (hx : ∀ j, x = some j → j < 2 ^ 31) (hy : ∀ j, y = some j → j < 2 ^ 31) (h : pt_o x = pt_o y) : x = y := by
  cases x with
  | none =>
    cases y with
    | none => rfl
    | some b => exact absurd h.symm (pt_m1 (hy b rfl))
  | some a =>
    cases y with
    | none => exact absurd h (pt_m1 (hx a rfl))
    | some b => rw [(nI_eq (hx a rfl) (hy b rfl)).mp h]
def pt_s (p : Nat → Bool) : Nat → Nat → Option Nat
  | 0, _ => none
  | d + 1, i => if p i = true then some i else pt_s p d (i + 1)
theorem pt_st {p : Nat → Bool} {d i : Nat} (h : p i = true) : pt_s p (d + 1) i = some i := if_pos h
theorem pt_sf {p : Nat → Bool} {d i : Nat} (h : p i = false) : pt_s p (d + 1) i = pt_s p d (i + 1) := if_neg (by rw [h]; decide)
theorem pt_s_some {p : Nat → Bool} : ∀ d i j, pt_s p d i = some j → i ≤ j ∧ j < i + d ∧ p j = true := by
  intro d
  induction d with
  | zero => intro i j h; exact absurd h (by simp [pt_s])
  | succ d ih =>
    intro i j h
    cases hp : p i with
    | true => rw [pt_st hp] at h; cases h; exact ⟨by omega, by omega, hp⟩
    | false =>
      rw [pt_sf hp] at h
      have := ih (i + 1) j h
      exact ⟨by omega, by omega, this.2.2⟩
theorem pt_s_ex {p : Nat → Bool} : ∀ d i j, i ≤ j → j < i + d → p j = true → ∃ r, pt_s p d i = some r := by
  intro d
  induction d with
  | zero => intro i j h1 h2; omega
  | succ d ih =>
    intro i j h1 h2 h3
    cases hp : p i with
    | true => exact ⟨i, pt_st hp⟩
    | false =>
      rw [pt_sf hp]
      have : i ≠ j := by intro e; rw [e, h3] at hp; exact absurd hp (by decide)
      exact ih (i + 1) j (by omega) (by omega) h3
theorem pt_s_cg {p q : Nat → Bool} : ∀ d i, (∀ j, i ≤ j → j < i + d → p j = q j) → pt_s p d i = pt_s q d i := by
  intro d
  induction d with
  | zero => intro i _; rfl
  | succ d ih =>
    intro i h
    have e := h i (Nat.le_refl _) (by omega)
    have r := ih (i + 1) (fun j h1 h2 => h j (by omega) (by omega))
    cases hp : p i with
    | true => rw [pt_st hp, pt_st (e ▸ hp)]
    | false => rw [pt_sf hp, pt_sf (e ▸ hp), r]
def pt_c (p : Nat → Bool) : Nat → Nat
  | 0 => 0
  | n + 1 => pt_c p n + (if p n = true then 1 else 0)
theorem pt_ct {p : Nat → Bool} {n : Nat} (h : p n = true) : pt_c p (n + 1) = pt_c p n + 1 := by
  show _ + (if p n = true then 1 else 0) = _
  rw [if_pos h]
theorem pt_cf {p : Nat → Bool} {n : Nat} (h : p n = false) : pt_c p (n + 1) = pt_c p n := by
  show _ + (if p n = true then 1 else 0) = _
  rw [if_neg (by rw [h]; decide), Nat.add_zero]
theorem pt_c_s (p : Nat → Bool) (n : Nat) : pt_c p n ≤ pt_c p (n + 1) ∧ pt_c p (n + 1) ≤ pt_c p n + 1 := by
  cases hp : p n with
  | true => rw [pt_ct hp]; omega
  | false => rw [pt_cf hp]; omega
theorem pt_c_le (p : Nat → Bool) (n : Nat) : pt_c p n ≤ n := by
  induction n with
  | zero => exact Nat.le_refl _
  | succ n ih => have := pt_c_s p n; omega
theorem pt_c_mono (p : Nat → Bool) (a d : Nat) : pt_c p a ≤ pt_c p (a + d) := by
  induction d with
  | zero => exact Nat.le_refl _
  | succ d ih => have := pt_c_s p (a + d); rw [← Nat.add_assoc]; omega
theorem pt_c_lt {p : Nat → Bool} {a b : Nat} (h : a < b) (ha : p a = true) : pt_c p a < pt_c p b := by
  have h1 := pt_ct ha
  have h2 := pt_c_mono p (a + 1) (b - (a + 1))
  rw [show a + 1 + (b - (a + 1)) = b from by omega] at h2
  omega
theorem pt_c_sub {p q : Nat → Bool} (n : Nat) (h : ∀ i, i < n → p i = true → q i = true) : pt_c p n ≤ pt_c q n := by
  induction n with
  | zero => exact Nat.le_refl _
  | succ n ih =>
    have h1 := ih (fun i hi => h i (by omega))
    cases hp : p n with
    | true => rw [pt_ct hp, pt_ct (h n (by omega) hp)]; omega
    | false => rw [pt_cf hp]; have := pt_c_s q n; omega
theorem pt_c_sublt {p q : Nat → Bool} (n j : Nat) (h : ∀ i, i < n → p i = true → q i = true) (hj : j < n) (hq : q j = true) (hp : p j = false) : pt_c p n < pt_c q n := by
  induction n with
  | zero => omega
  | succ n ih =>
    by_cases e : j = n
    · subst e
      rw [pt_ct hq, pt_cf hp]
      have := pt_c_sub (p := p) (q := q) j (fun i hi => h i (by omega))
      omega
    · have h1 := ih (fun i hi => h i (by omega)) (by omega)
      cases hp : p n with
      | true => rw [pt_ct hp, pt_ct (h n (by omega) hp)]; omega
      | false => rw [pt_cf hp]; have := pt_c_s q n; omega
theorem pt_c_ex {p : Nat → Bool} : ∀ n k, k < pt_c p n → ∃ s, s < n ∧ p s = true ∧ pt_c p s = k := by
  intro n
  induction n with
  | zero => intro k h; exact absurd h (Nat.not_lt_zero _)
  | succ n ih =>
    intro k h
    by_cases h1 : k < pt_c p n
    · obtain ⟨s, a, b, c⟩ := ih k h1
      exact ⟨s, by omega, b, c⟩
    · cases hp : p n with
      | true => rw [pt_ct hp] at h; exact ⟨n, by omega, hp, by omega⟩
      | false => rw [pt_cf hp] at h; exact absurd h h1
end
section
def cl_V (n : Nat) (l : Nat → Nat) : Prop := ∀ i, i < n → l i ≤ i ∧ l (l i) = l i
def cl_K (n : Nat) (sy fi se l : Nat → Nat) : Prop := ∀ i j, i < n → j < n → sy i = sy j → l (fi i) = l (fi j) → l (se i) = l (se j) → l i = l j
def cl_J (n p q : Nat) (l : Nat → Nat) : Nat → Nat := fun k => if k < n ∧ (l k = p ∨ l k = q) then (if q ≤ p then q else p) else l k
def cl_I (n : Nat) (sy fi se l0 l : Nat → Nat) : Prop :=
  cl_V n l ∧ (∀ i, i < n → l (l0 i) = l i) ∧ (∀ M, cl_V n M → cl_K n sy fi se M → (∀ i, i < n → M (l0 i) = M i) → ∀ i, i < n → M (l i) = M i) ∧ (∀ i, n ≤ i → l i = l0 i)
def cl_n (n : Nat) (l : Nat → Nat) : Nat := pt_c (fun i => decide (l i = i)) n
def cl_p (sy fi se l : Nat → Nat) (s f g : Nat) : Nat → Bool := fun j => decide (sy j = s ∧ l (fi j) = f ∧ l (se j) = g)
theorem cl_Jt {n p q : Nat} {l : Nat → Nat} {k : Nat} (h : k < n) (h2 : l k = p ∨ l k = q) : cl_J n p q l k = if q ≤ p then q else p := if_pos ⟨h, h2⟩
theorem cl_Jf {n p q : Nat} {l : Nat → Nat} {k : Nat} (h2 : ¬ (k < n ∧ (l k = p ∨ l k = q))) : cl_J n p q l k = l k := if_neg h2
theorem cl_lt {n : Nat} {l : Nat → Nat} (h : cl_V n l) {i : Nat} (hi : i < n) : l i < n := Nat.lt_of_le_of_lt (h i hi).1 hi
theorem cl_0 {n : Nat} {l : Nat → Nat} (h : cl_V n l) (hn : 0 < n) : l 0 = 0 := Nat.le_zero.mp (h 0 hn).1
theorem cl_mn (p q : Nat) : ((if q ≤ p then q else p) = p ∨ (if q ≤ p then q else p) = q) ∧ (if q ≤ p then q else p) ≤ p ∧ (if q ≤ p then q else p) ≤ q := by
  split <;> omega
theorem cl_JV {n : Nat} {l : Nat → Nat} (h : cl_V n l) {a b : Nat} (ha : a < n) (hb : b < n) : cl_V n (cl_J n (l a) (l b) l) := by
  intro i hi
  have m := cl_mn (l a) (l b)
  by_cases c : l i = l a ∨ l i = l b
  · rw [cl_Jt hi c]
    refine ⟨?_, ?_⟩
    · have := (h i hi).1
      rcases c with c | c <;> omega
    · have hm : l (if l b ≤ l a then l b else l a) = (if l b ≤ l a then l b else l a) := by
        rcases m.1 with e | e
        · rw [e]; exact (h a ha).2
        · rw [e]; exact (h b hb).2
      refine cl_Jt ?_ (by rw [hm]; exact m.1)
      have := cl_lt h ha
      omega
  · have e : cl_J n (l a) (l b) l i = l i := cl_Jf (fun z => c z.2)
    rw [e]
    refine ⟨(h i hi).1, ?_⟩
    rw [cl_Jf (fun z => c (by rw [(h i hi).2] at z; exact z.2)), (h i hi).2]
theorem cl_I0 {n : Nat} {sy fi se l0 : Nat → Nat} (h : cl_V n l0) : cl_I n sy fi se l0 l0 :=
  ⟨h, fun i hi => (h i hi).2, fun _ _ _ hM => hM, fun _ _ => rfl⟩
theorem cl_IJ {n : Nat} {sy fi se l0 l : Nat → Nat} (h0 : cl_V n l0) (h : cl_I n sy fi se l0 l) {a b : Nat} (ha : a < n) (hb : b < n)
    (hab : ∀ M, cl_V n M → cl_K n sy fi se M → (∀ i, i < n → M (l0 i) = M i) → M a = M b) : cl_I n sy fi se l0 (cl_J n (l a) (l b) l) := by
  refine ⟨cl_JV h.1 ha hb, ?_, ?_, ?_⟩
  · intro i hi
    have e := h.2.1 i hi
    have hl := cl_lt h0 hi
    by_cases c : l i = l a ∨ l i = l b
    · rw [cl_Jt hi c, cl_Jt hl (by rw [e]; exact c)]
    · rw [cl_Jf (fun z => c z.2), cl_Jf (fun z => c (by rw [e] at z; exact z.2)), e]
  · intro M hV hK hM i hi
    have hL := h.2.2.1 M hV hK hM
    have e := hab M hV hK hM
    by_cases c : l i = l a ∨ l i = l b
    · rw [cl_Jt hi c]
      have m := cl_mn (l a) (l b)
      have e1 := hL i hi
      have e2 := hL a ha
      have e3 := hL b hb
      rcases m.1 with w | w <;> rw [w] <;> rcases c with c | c <;> rw [c] at e1 <;> omega
    · rw [cl_Jf (fun z => c z.2)]; exact hL i hi
  · intro i hi
    rw [cl_Jf (fun z => by omega)]; exact h.2.2.2 i hi
theorem cl_ab {n : Nat} {sy fi se l0 l : Nat → Nat} (h : cl_I n sy fi se l0 l) (hc : ∀ i, i < n → fi i < n ∧ se i < n) {a b : Nat} (ha : a < n) (hb : b < n)
    (e1 : sy a = sy b) (e2 : l (fi a) = l (fi b)) (e3 : l (se a) = l (se b)) :
    ∀ M, cl_V n M → cl_K n sy fi se M → (∀ i, i < n → M (l0 i) = M i) → M a = M b := by
  intro M hV hK hM
  have hL := h.2.2.1 M hV hK hM
  refine hK a b ha hb e1 ?_ ?_
  · rw [← hL _ (hc a ha).1, ← hL _ (hc b hb).1, e2]
  · rw [← hL _ (hc a ha).2, ← hL _ (hc b hb).2, e3]
theorem cl_U {n : Nat} {sy fi se l0 l l' : Nat → Nat} (h : cl_I n sy fi se l0 l) (k : cl_K n sy fi se l) (h' : cl_I n sy fi se l0 l') (k' : cl_K n sy fi se l') : l = l' := by
  funext i
  by_cases hi : i < n
  · have a := h.2.2.1 l' h'.1 k' h'.2.1 i hi
    have b := h'.2.2.1 l h.1 k h.2.1 i hi
    have c := (h'.1 (l i) (cl_lt h.1 hi)).1
    have d := (h.1 (l' i) (cl_lt h'.1 hi)).1
    omega
  · rw [h.2.2.2 i (by omega), h'.2.2.2 i (by omega)]
theorem cl_B {n : Nat} {sy fi se l0 l : Nat → Nat} (hn : n ≤ 20) (h0 : pt_B l0) (h : cl_I n sy fi se l0 l) : pt_B l := by
  intro i
  by_cases hi : i < n
  · have := cl_lt h.1 hi; omega
  · rw [h.2.2.2 i (by omega)]; exact h0 i
theorem cl_Jn {n : Nat} {l : Nat → Nat} (h : cl_V n l) {a b : Nat} (ha : a < n) (hb : b < n) (hab : l a ≠ l b) : cl_n n (cl_J n (l a) (l b) l) < cl_n n l := by
  have m := cl_mn (l a) (l b)
  have key : ∀ x, x < n → l x = x → x = l a ∨ x = l b → x ≠ (if l b ≤ l a then l b else l a) → cl_n n (cl_J n (l a) (l b) l) < cl_n n l := by
    intro x hx hl hxx hne
    refine pt_c_sublt n x ?_ hx (decide_eq_true hl) (decide_eq_false ?_)
    · intro i hi hp
      have hp := of_decide_eq_true hp
      refine decide_eq_true ?_
      by_cases c : l i = l a ∨ l i = l b
      · rw [cl_Jt hi c] at hp
        rw [← hp]
        rcases m.1 with e | e
        · rw [e]; exact (h a ha).2
        · rw [e]; exact (h b hb).2
      · rw [cl_Jf (fun z => c z.2)] at hp; exact hp
    · rw [cl_Jt hx (by rw [hl]; exact hxx)]
      exact fun z => hne z.symm
  rcases m.1 with e | e
  · exact key (l b) (cl_lt h hb) (h b hb).2 (Or.inr rfl) (by rw [e]; exact fun z => hab z.symm)
  · exact key (l a) (cl_lt h ha) (h a ha).2 (Or.inl rfl) (by rw [e]; exact hab)
theorem cl_Js {n p q i : Nat} {l : Nat → Nat} (h : l i = p ∨ l i = q) : pt_u (cl_J i p q l) i (if q ≤ p then q else p) = cl_J (i + 1) p q l := by
  funext k
  by_cases e : k = i
  · subst e; rw [pt_us, cl_Jt (by omega) h]
  · rw [pt_un e]
    by_cases c : k < i ∧ (l k = p ∨ l k = q)
    · rw [cl_Jt c.1 c.2, cl_Jt (by omega) c.2]
    · rw [cl_Jf c, cl_Jf (fun z => c ⟨by omega, z.2⟩)]
theorem cl_Jk {p q i : Nat} {l : Nat → Nat} (h : ¬ (l i = p ∨ l i = q)) : cl_J i p q l = cl_J (i + 1) p q l := by
  funext k
  by_cases c : k < i ∧ (l k = p ∨ l k = q)
  · rw [cl_Jt c.1 c.2, cl_Jt (by omega) c.2]
  · rw [cl_Jf c, cl_Jf (fun z => c ⟨by
      have : k ≠ i := by intro e; subst e; exact h z.2
      omega, z.2⟩)]
theorem cl_Ji {p q i : Nat} {l : Nat → Nat} : cl_J i p q l i = l i := cl_Jf (fun z => by omega)
theorem cl_J0 {p q : Nat} {l : Nat → Nat} : cl_J 0 p q l = l := by
  funext k
  exact cl_Jf (fun z => by omega)
theorem cl_n1 {n : Nat} {l : Nat → Nat} (h : cl_V n l) (hn : 0 < n) : 0 < cl_n n l := by
  have := pt_c_lt (p := fun i => decide (l i = i)) hn (decide_eq_true (cl_0 h hn))
  exact Nat.lt_of_le_of_lt (Nat.zero_le _) this
end
