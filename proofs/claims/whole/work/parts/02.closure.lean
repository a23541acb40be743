def cl_V (n : Nat) (l : Nat → Nat) : Prop := ∀ i, i < n → l i ≤ i ∧ l (l i) = l i
def cl_K (n : Nat) (sy fi se l : Nat → Nat) : Prop := ∀ i j, i < n → j < n → sy i = sy j → l (fi i) = l (fi j) → l (se i) = l (se j) → l i = l j
def cl_J (n p q : Nat) (l : Nat → Nat) : Nat → Nat := fun k => if k < n ∧ (l k = p ∨ l k = q) then (if q ≤ p then q else p) else l k
def cl_I (n : Nat) (sy fi se l0 l : Nat → Nat) : Prop :=
  cl_V n l ∧ (∀ i, i < n → l (l0 i) = l i) ∧ (∀ M, cl_V n M → cl_K n sy fi se M → (∀ i, i < n → M (l0 i) = M i) → ∀ i, i < n → M (l i) = M i) ∧ (∀ i, n ≤ i → l i = l0 i)
def cl_n (n : Nat) (l : Nat → Nat) : Nat := pt_c (fun i => decide (l i = i)) n
def cl_p (sy fi se l : Nat → Nat) (s f g : Nat) : Nat → Bool := fun j => decide (sy j = s ∧ l (fi j) = f ∧ l (se j) = g)
theorem cl_Jt {n p q : Nat} {l : Nat → Nat} {k : Nat} (h : k < n) (h2 : l k = p ∨ l k = q) : cl_J n p q l k = if q ≤ p then q else p := if_pos ⟨h, h2⟩
theorem cl_Jf {n p q : Nat} {l : Nat → Nat} {k : Nat} (h2 : ¬ (k < n ∧ (l k = p ∨ l k = q))) : cl_J n p q l k = l k := if_neg h2
theorem cl_lt {n : Nat} {l : Nat → Nat} (h : cl_V n l) {i : Nat} (hi : i < n) : l i < n := Nat.lt_of_le_of_lt (h i hi).1 hi
theorem cl_0 {n : Nat} {l : Nat → Nat} (h : cl_V n l) (hn : 0 < n) : l 0 = 0 := Nat.le_zero.mp (h 0 hn).1
theorem cl_mn (p q : Nat) : ((if q ≤ p then q else p) = p ∨ (if q ≤ p then q else p) = q) ∧ (if q ≤ p then q else p) ≤ p ∧ (if q ≤ p then q else p) ≤ q := by
  split <;> omega
theorem cl_JV {n : Nat} {l : Nat → Nat} (h : cl_V n l) {a b : Nat} (ha : a < n) (hb : b < n) : cl_V n (cl_J n (l a) (l b) l) := by
  intro i hi
  have m := cl_mn (l a) (l b)
  by_cases c : l i = l a ∨ l i = l b
  · rw [cl_Jt hi c]
    refine ⟨?_, ?_⟩
    · have := (h i hi).1
      rcases c with c | c <;> omega
    · have hm : l (if l b ≤ l a then l b else l a) = (if l b ≤ l a then l b else l a) := by
        rcases m.1 with e | e
        · rw [e]; exact (h a ha).2
        · rw [e]; exact (h b hb).2
      refine cl_Jt ?_ (by rw [hm]; exact m.1)
      have := cl_lt h ha
      omega
  · have e : cl_J n (l a) (l b) l i = l i := cl_Jf (fun z => c z.2)
    rw [e]
    refine ⟨(h i hi).1, ?_⟩
    rw [cl_Jf (fun z => c (by rw [(h i hi).2] at z; exact z.2)), (h i hi).2]
theorem cl_I0 {n : Nat} {sy fi se l0 : Nat → Nat} (h : cl_V n l0) : cl_I n sy fi se l0 l0 :=
  ⟨h, fun i hi => (h i hi).2, fun _ _ _ hM => hM, fun _ _ => rfl⟩
theorem cl_IJ {n : Nat} {sy fi se l0 l : Nat → Nat} (h0 : cl_V n l0) (h : cl_I n sy fi se l0 l) {a b : Nat} (ha : a < n) (hb : b < n)
    (hab : ∀ M, cl_V n M → cl_K n sy fi se M → (∀ i, i < n → M (l0 i) = M i) → M a = M b) : cl_I n sy fi se l0 (cl_J n (l a) (l b) l) := by
  refine ⟨cl_JV h.1 ha hb, ?_, ?_, ?_⟩
  · intro i hi
    have e := h.2.1 i hi
    have hl := cl_lt h0 hi
    by_cases c : l i = l a ∨ l i = l b
    · rw [cl_Jt hi c, cl_Jt hl (by rw [e]; exact c)]
    · rw [cl_Jf (fun z => c z.2), cl_Jf (fun z => c (by rw [e] at z; exact z.2)), e]
  · intro M hV hK hM i hi
    have hL := h.2.2.1 M hV hK hM
    have e := hab M hV hK hM
    by_cases c : l i = l a ∨ l i = l b
    · rw [cl_Jt hi c]
      have m := cl_mn (l a) (l b)
      have e1 := hL i hi
      have e2 := hL a ha
      have e3 := hL b hb
      rcases m.1 with w | w <;> rw [w] <;> rcases c with c | c <;> rw [c] at e1 <;> omega
    · rw [cl_Jf (fun z => c z.2)]; exact hL i hi
  · intro i hi
    rw [cl_Jf (fun z => by omega)]; exact h.2.2.2 i hi
theorem cl_ab {n : Nat} {sy fi se l0 l : Nat → Nat} (h : cl_I n sy fi se l0 l) (hc : ∀ i, i < n → fi i < n ∧ se i < n) {a b : Nat} (ha : a < n) (hb : b < n)
    (e1 : sy a = sy b) (e2 : l (fi a) = l (fi b)) (e3 : l (se a) = l (se b)) :
    ∀ M, cl_V n M → cl_K n sy fi se M → (∀ i, i < n → M (l0 i) = M i) → M a = M b := by
  intro M hV hK hM
  have hL := h.2.2.1 M hV hK hM
  refine hK a b ha hb e1 ?_ ?_
  · rw [← hL _ (hc a ha).1, ← hL _ (hc b hb).1, e2]
  · rw [← hL _ (hc a ha).2, ← hL _ (hc b hb).2, e3]
theorem cl_U {n : Nat} {sy fi se l0 l l' : Nat → Nat} (h : cl_I n sy fi se l0 l) (k : cl_K n sy fi se l) (h' : cl_I n sy fi se l0 l') (k' : cl_K n sy fi se l') : l = l' := by
  funext i
  by_cases hi : i < n
  · have a := h.2.2.1 l' h'.1 k' h'.2.1 i hi
    have b := h'.2.2.1 l h.1 k h.2.1 i hi
    have c := (h'.1 (l i) (cl_lt h.1 hi)).1
    have d := (h.1 (l' i) (cl_lt h'.1 hi)).1
    omega
  · rw [h.2.2.2 i (by omega), h'.2.2.2 i (by omega)]
theorem cl_B {n : Nat} {sy fi se l0 l : Nat → Nat} (hn : n ≤ 20) (h0 : pt_B l0) (h : cl_I n sy fi se l0 l) : pt_B l := by
  intro i
  by_cases hi : i < n
  · have := cl_lt h.1 hi; omega
  · rw [h.2.2.2 i (by omega)]; exact h0 i
theorem cl_Jn {n : Nat} {l : Nat → Nat} (h : cl_V n l) {a b : Nat} (ha : a < n) (hb : b < n) (hab : l a ≠ l b) : cl_n n (cl_J n (l a) (l b) l) < cl_n n l := by
  have m := cl_mn (l a) (l b)
  have key : ∀ x, x < n → l x = x → x = l a ∨ x = l b → x ≠ (if l b ≤ l a then l b else l a) → cl_n n (cl_J n (l a) (l b) l) < cl_n n l := by
    intro x hx hl hxx hne
    refine pt_c_sublt n x ?_ hx (decide_eq_true hl) (decide_eq_false ?_)
    · intro i hi hp
      have hp := of_decide_eq_true hp
      refine decide_eq_true ?_
      by_cases c : l i = l a ∨ l i = l b
      · rw [cl_Jt hi c] at hp
        rw [← hp]
        rcases m.1 with e | e
        · rw [e]; exact (h a ha).2
        · rw [e]; exact (h b hb).2
      · rw [cl_Jf (fun z => c z.2)] at hp; exact hp
    · rw [cl_Jt hx (by rw [hl]; exact hxx)]
      exact fun z => hne z.symm
  rcases m.1 with e | e
  · exact key (l b) (cl_lt h hb) (h b hb).2 (Or.inr rfl) (by rw [e]; exact fun z => hab z.symm)
  · exact key (l a) (cl_lt h ha) (h a ha).2 (Or.inl rfl) (by rw [e]; exact hab)
theorem cl_Js {n p q i : Nat} {l : Nat → Nat} (h : l i = p ∨ l i = q) : pt_u (cl_J i p q l) i (if q ≤ p then q else p) = cl_J (i + 1) p q l := by
  funext k
  by_cases e : k = i
  · subst e; rw [pt_us, cl_Jt (by omega) h]
  · rw [pt_un e]
    by_cases c : k < i ∧ (l k = p ∨ l k = q)
    · rw [cl_Jt c.1 c.2, cl_Jt (by omega) c.2]
    · rw [cl_Jf c, cl_Jf (fun z => c ⟨by omega, z.2⟩)]
theorem cl_Jk {p q i : Nat} {l : Nat → Nat} (h : ¬ (l i = p ∨ l i = q)) : cl_J i p q l = cl_J (i + 1) p q l := by
  funext k
  by_cases c : k < i ∧ (l k = p ∨ l k = q)
  · rw [cl_Jt c.1 c.2, cl_Jt (by omega) c.2]
  · rw [cl_Jf c, cl_Jf (fun z => c ⟨by
      have : k ≠ i := by intro e; subst e; exact h z.2
      omega, z.2⟩)]
theorem cl_Ji {p q i : Nat} {l : Nat → Nat} : cl_J i p q l i = l i := cl_Jf (fun z => by omega)
theorem cl_J0 {p q : Nat} {l : Nat → Nat} : cl_J 0 p q l = l := by
  funext k
  exact cl_Jf (fun z => by omega)
theorem cl_n1 {n : Nat} {l : Nat → Nat} (h : cl_V n l) (hn : 0 < n) : 0 < cl_n n l := by
  have := pt_c_lt (p := fun i => decide (l i = i)) hn (decide_eq_true (cl_0 h hn))
  exact Nat.lt_of_le_of_lt (Nat.zero_le _) this
