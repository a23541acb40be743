def cl_E (n : Nat) (sy fi se kd aa bb : Nat → Nat) : Prop :=
  (∀ k, k < n → (kd k = 0 ∧ sy k = 10 + aa k ∧ aa k < 6 ∧ fi k = 0 ∧ se k = 0 ∧ bb k = 0) ∨ (kd k = 1 ∧ sy k = 20 ∧ fi k = aa k ∧ aa k < n ∧ se k = 0 ∧ bb k = 0) ∨ (kd k = 2 ∧ sy k = 21 ∧ fi k = aa k ∧ aa k < n ∧ se k = bb k ∧ bb k < n))
  ∧ (∀ i j, i < n → j < n → kd i = 0 → kd j = 0 → aa i = aa j → i = j)
theorem cl_Ec {n : Nat} {sy fi se kd aa bb : Nat → Nat} (h : cl_E n sy fi se kd aa bb) : ∀ i, i < n → fi i < n ∧ se i < n := by
  intro i hi
  rcases h.1 i hi with h | h | h <;> omega
theorem cl_Ed {n : Nat} (hn : n ≤ 20) {sy fi se kd aa bb : Nat → Nat} (h : cl_E n sy fi se kd aa bb) : ∀ i, i < n → aa i < 20 ∧ bb i < 20 ∧ kd i < 3 := by
  intro i hi
  rcases h.1 i hi with h | h | h <;> omega
def cl_A (kd aa bb l : Nat → Nat) (x y : Nat) : Prop := kd x = kd y ∧ kd x ≠ 0 ∧ l (aa x) = l (aa y) ∧ (kd x = 1 ∨ l (bb x) = l (bb y))
theorem cl_Ak {n : Nat} {sy fi se kd aa bb l : Nat → Nat} (h : cl_E n sy fi se kd aa bb) {x y : Nat} (hx : x < n) (hy : y < n) (a : cl_A kd aa bb l x y) : sy x = sy y ∧ l (fi x) = l (fi y) ∧ l (se x) = l (se y) := by
  obtain ⟨a1, a2, a3, a4⟩ := a
  rcases h.1 x hx with h1 | h1 | h1 <;> rcases h.1 y hy with h2 | h2 | h2
  · omega
  · omega
  · omega
  · omega
  · obtain ⟨p1, p2, p3, p4, p5, p6⟩ := h1
    obtain ⟨q1, q2, q3, q4, q5, q6⟩ := h2
    rw [p2, q2, p3, q3, p5, q5]
    exact ⟨rfl, a3, rfl⟩
  · omega
  · omega
  · omega
  · obtain ⟨p1, p2, p3, p4, p5, p6⟩ := h1
    obtain ⟨q1, q2, q3, q4, q5, q6⟩ := h2
    rw [p2, q2, p3, q3, p5, q5]
    exact ⟨rfl, a3, a4.resolve_left (by omega)⟩
theorem cl_kA {n : Nat} {sy fi se kd aa bb l : Nat → Nat} (h : cl_E n sy fi se kd aa bb) {x y : Nat} (hx : x < n) (hy : y < n) (e1 : sy x = sy y) (e2 : l (fi x) = l (fi y)) (e3 : l (se x) = l (se y)) : x = y ∨ cl_A kd aa bb l x y := by
  rcases h.1 x hx with h1 | h1 | h1 <;> rcases h.1 y hy with h2 | h2 | h2
  · exact Or.inl (h.2 x y hx hy (by omega) (by omega) (by omega))
  · omega
  · omega
  · omega
  · obtain ⟨p1, p2, p3, p4, p5, p6⟩ := h1
    obtain ⟨q1, q2, q3, q4, q5, q6⟩ := h2
    rw [p3, q3] at e2
    exact Or.inr ⟨by omega, by omega, e2, Or.inl p1⟩
  · omega
  · omega
  · omega
  · obtain ⟨p1, p2, p3, p4, p5, p6⟩ := h1
    obtain ⟨q1, q2, q3, q4, q5, q6⟩ := h2
    rw [p3, q3] at e2
    rw [p5, q5] at e3
    exact Or.inr ⟨by omega, by omega, e2, Or.inr e3⟩
theorem yc_alike {n : Nat} {kd aa bb l : Nat → Nat} (bk : pt_B kd) (bl : pt_B l) (hd : ∀ i, i < n → aa i < 20 ∧ bb i < 20 ∧ kd i < 3) (tc w ct fd : Int32) (tk bd kp st : Nat → Int32) {x y : Nat} (hn : n ≤ 20) (hx : x < n) (hy : y < n) (post : Int32 → Prop)
    (h1 : cl_A kd aa bb l x y → post 1) (h0 : ¬ cl_A kd aa bb l x y → post 0) :
    wpY_alike post (nI n, tc, w, ct, fd, pt_f kd, pt_f aa, pt_f bb, pt_f l, tk, bd, kp, st) (nI x) (nI y) := by
  have i1 : vp_in (nI x) 20 := vp_in_nI (by omega) (by omega)
  have i2 : vp_in (nI y) 20 := vp_in_nI (by omega) (by omega)
  have l1 : x < 2 ^ 31 := by omega
  have l2 : y < 2 ^ 31 := by omega
  have d1 := hd x hx
  have d2 := hd y hy
  have b1 := bl (aa x)
  have b2 := bl (aa y)
  have b3 := bl (bb x)
  have b4 := bl (bb y)
  have j1 : vp_in (pt_f aa (nI x).toNatClampNeg) 20 := by rw [pt_at aa l1]; exact vp_in_nI (by omega) (by omega)
  have j2 : vp_in (pt_f aa (nI y).toNatClampNeg) 20 := by rw [pt_at aa l2]; exact vp_in_nI (by omega) (by omega)
  have j3 : vp_in (pt_f bb (nI x).toNatClampNeg) 20 := by rw [pt_at bb l1]; exact vp_in_nI (by omega) (by omega)
  have j4 : vp_in (pt_f bb (nI y).toNatClampNeg) 20 := by rw [pt_at bb l2]; exact vp_in_nI (by omega) (by omega)
  refine ⟨i1, i2, pk_eq (kd x) (kd y) (fun e1 => ⟨i1, pk_eq (kd x) 0 (fun e2 => h0 fun z => z.2.1 e2) (fun e2 => ⟨i1, j1, i2, j2, pk_eq (l (aa x)) (l (aa y)) (fun e3 => ⟨i1, pk_eq (kd x) 1 (fun e4 => h1 ⟨e1, e2, e3, Or.inl e4⟩) (fun e4 => ⟨i1, j3, i2, j4, pk_eq (l (bb x)) (l (bb y)) (fun e5 => h1 ⟨e1, e2, e3, Or.inr e5⟩) (fun e5 => h0 fun z => z.2.2.2.elim e4 e5) (pt_at2 l bb l1 (by omega)) (pt_at2 l bb l2 (by omega))⟩) (pt_at kd l1) rfl⟩) (fun e3 => h0 fun z => e3 z.2.2.1) (pt_at2 l aa l1 (by omega)) (pt_at2 l aa l2 (by omega))⟩) (pt_at kd l1) rfl⟩) (fun e1 => h0 fun z => e1 z.1) (pt_at kd l1) (pt_at kd l2)⟩
theorem yc_join66 {n : Nat} (hn : n ≤ 20) {l : Nat → Nat} (bl : pt_B l) (tc w ct fd : Int32) (kd aa bb tk bd kp st : Nat → Int32) {p q m M : Nat} (hp : p < 100) (hq : q < 100) (hm : m = if q ≤ p then q else p) (hM : M = p ∧ q ≤ p ∨ M = q ∧ p ≤ q) (post : Int32 → SY → Prop)
    (h : post (if p = q then 0 else 1) (nI n, tc, w, ct, fd, kd, aa, bb, pt_f (cl_J n p q l), tk, bd, kp, st)) :
    ∀ d i, i + d = n → wY_join_66 post (nI m) (nI M) (nI n) tc w ct fd (d + 1) (nI i) kd aa bb (pt_f (cl_J i p q l)) tk bd kp st := by
  have hmm : m = p ∧ p ≤ q ∨ m = q ∧ q ≤ p := by
    rw [hm]
    split <;> omega
  intro d
  induction d with
  | zero =>
    intro i hi
    have e : i = n := by omega
    subst e
    refine br_t (nI_le (by omega) (by omega)) (pk_eq m M (fun e => ?_) (fun e => ?_))
    · rw [if_pos (by omega)] at h; exact h
    · rw [if_neg (by omega)] at h; exact h
  | succ d ih =>
    intro i hi
    have h1 : i < 2 ^ 31 := by omega
    have b1 := bl i
    have hin : vp_in (nI i) 20 := vp_in_nI (by omega) (by omega)
    have ha : pt_f (cl_J i p q l) (nI i).toNatClampNeg = nI (l i) := by rw [pt_at _ h1, cl_Ji]
    have hup : l i = p ∨ l i = q → pt_u (cl_J i p q l) i m = cl_J (i + 1) p q l := by
      intro c
      rw [hm]
      exact cl_Js (n := n) c
    have ih := ih (i + 1) (by omega)
    refine br_f (nI_ge (by omega) (by omega)) ⟨hin, pk_eq (l i) M (fun e1 => ⟨hin, nm_r (e' := pt_f (cl_J (i + 1) p q l)) ?_ (nm_r (nI_1 i) ih)⟩) (fun e1 => nm_r (nI_1 i) ?_) ha rfl⟩
    · rw [pt_up _ _ h1, hup (by omega)]
    · have e : cl_J i p q l = cl_J (i + 1) p q l := by
        by_cases c : l i = p ∨ l i = q
        · rw [← hup c]
          funext k
          by_cases ek : k = i
          · subst ek; rw [pt_us, cl_Ji]; omega
          · rw [pt_un ek]
        · exact cl_Jk c
      rw [e]
      exact ih
theorem yc_join {n : Nat} (hn : n ≤ 20) {l : Nat → Nat} (bl : pt_B l) (tc w ct fd : Int32) (kd aa bb tk bd kp st : Nat → Int32) {a b : Nat} (ha : a < 20) (hb : b < 20) (post : Int32 → SY → Prop)
    (h : post (if l a = l b then 0 else 1) (nI n, tc, w, ct, fd, kd, aa, bb, pt_f (cl_J n (l a) (l b) l), tk, bd, kp, st)) :
    wpY_join post (nI n, tc, w, ct, fd, kd, aa, bb, pt_f l, tk, bd, kp, st) (nI a) (nI b) := by
  have b1 := bl a
  have b2 := bl b
  have i1 : vp_in (nI a) 20 := vp_in_nI (by omega) (by omega)
  have i2 : vp_in (nI b) 20 := vp_in_nI (by omega) (by omega)
  have l1 : pt_f l (nI a).toNatClampNeg = nI (l a) := pt_at l (by omega)
  have l2 : pt_f l (nI b).toNatClampNeg = nI (l b) := pt_at l (by omega)
  have key : ∀ m M, (m = if l b ≤ l a then l b else l a) → (M = l a ∧ l b ≤ l a ∨ M = l b ∧ l a ≤ l b) → ∃ n66 : Nat, wY_join_66 post (nI m) (nI M) (nI n) tc w ct fd n66 0 kd aa bb (pt_f l) tk bd kp st := by
    intro m M hm hM
    have w := yc_join66 hn bl tc w ct fd kd aa bb tk bd kp st b1 b2 hm hM post h n 0 (by omega)
    rw [cl_J0] at w
    exact ⟨n + 1, w⟩
  refine ⟨i1, i2, pk_le (l b) (l a) (fun e => ⟨i2, ?_⟩) (fun e => ⟨i1, ?_⟩) l2 l1⟩
  · rw [l2]
    exact ⟨i1, i2, br_t (by rw [l1, l2]; exact nI_le e (by omega)) ⟨i1, nm_r l1 (key _ _ (if_pos e).symm (Or.inl ⟨rfl, e⟩))⟩⟩
  · rw [l1]
    exact ⟨i1, i2, br_f (by rw [l1, l2]; exact nI_ge e (by omega)) ⟨i2, nm_r l2 (key _ _ (if_neg (by omega)).symm (Or.inr ⟨rfl, by omega⟩))⟩⟩
theorem yc_pass {n : Nat} (hn : n ≤ 20) (hn0 : 0 < n) {sy fi se kd aa bb l0 lS : Nat → Nat} (bk : pt_B kd) (b0 : pt_B l0) (h0 : cl_V n l0) (hE : cl_E n sy fi se kd aa bb) (tc w ct fd : Int32) (tk bd kp st : Nat → Int32) (x2 : Int32) (post : SY → Prop)
    (J4 : Int32 → Int32 → Int32 → Int32 → Int32 → Int32 → Int32 → (Nat → Int32) → (Nat → Int32) → (Nat → Int32) → (Nat → Int32) → (Nat → Int32) → (Nat → Int32) → (Nat → Int32) → (Nat → Int32) → Prop)
    (hJ : ∀ x1 l, cl_I n sy fi se l0 l → (x1 = 0 ∧ cl_K n sy fi se l ∨ x1 = 1 ∧ cl_n n l < cl_n n lS) → J4 x1 (x2 + 1) (nI n) tc w ct fd (pt_f kd) (pt_f aa) (pt_f bb) (pt_f l) tk bd kp st) :
    ∀ d t x1 l, t + d = n * n → cl_I n sy fi se l0 l → (x1 = 0 ∧ l = lS ∧ (∀ j, j < t → cl_A kd aa bb l (j / n) (j % n) → l (j / n) = l (j % n)) ∨ x1 = 1 ∧ cl_n n l < cl_n n lS) →
      wY_follow_18 post J4 x2 (d + 1) x1 (nI t) (nI n) tc w ct fd (pt_f kd) (pt_f aa) (pt_f bb) (pt_f l) tk bd kp st := by
  have hnn : n * n ≤ 20 * 20 := Nat.mul_le_mul hn hn
  intro d
  induction d with
  | zero =>
    intro t x1 l ht hI hx
    refine br_t (by rw [pk_mul]; exact nI_le (by omega) (by omega)) (nm_e (hJ x1 l hI ?_))
    rcases hx with ⟨e, el, hx⟩ | hx
    · refine Or.inl ⟨e, ?_⟩
      intro a b ha hb e1 e2 e3
      rcases cl_kA (l := l) hE ha hb e1 e2 e3 with ee | hA
      · rw [ee]
      · have g1 : (b + a * n) / n = a := by rw [Nat.add_mul_div_right b a hn0, Nat.div_eq_of_lt hb, Nat.zero_add]
        have g2 : (b + a * n) % n = b := by rw [Nat.add_mul_mod_self_right, Nat.mod_eq_of_lt hb]
        have g3 : (a + 1) * n ≤ n * n := Nat.mul_le_mul_right n ha
        rw [Nat.succ_mul] at g3
        have := hx (b + a * n) (by omega)
        rw [g1, g2] at this
        exact this hA
    · exact Or.inr hx
  | succ d ih =>
    intro t x1 l ht hI hx
    have bl := cl_B hn b0 hI
    have tl : t < 2 ^ 31 := by omega
    have nl : n < 2 ^ 31 := by omega
    have hnz : ¬ nI n = 0 := nI_ne0 hn0 nl
    have hX : t / n < n := Nat.div_lt_of_lt_mul (by omega)
    have hY : t % n < n := Nat.mod_lt _ hn0
    refine br_f (by rw [pk_mul]; exact nI_ge (by omega) (by omega)) ⟨hnz, hnz, ?_⟩
    rw [pk_rem tl hn0 nl, pk_div tl hn0 nl]
    have hgo : ∀ l' y1, cl_I n sy fi se l0 l' → (y1 = 0 ∧ l' = lS ∧ (∀ j, j < t + 1 → cl_A kd aa bb l' (j / n) (j % n) → l' (j / n) = l' (j % n)) ∨ y1 = 1 ∧ cl_n n l' < cl_n n lS) → ∀ y, y = nI t + 1 → wY_follow_18 post J4 x2 (d + 1) y1 y (nI n) tc w ct fd (pt_f kd) (pt_f aa) (pt_f bb) (pt_f l') tk bd kp st :=
      fun l' y1 hI' hy => nm_r (nI_1 t) (ih (t + 1) y1 l' (by omega) hI' hy)
    have hstay : (cl_A kd aa bb l (t / n) (t % n) → l (t / n) = l (t % n)) → (x1 = 0 ∧ l = lS ∧ (∀ j, j < t + 1 → cl_A kd aa bb l (j / n) (j % n) → l (j / n) = l (j % n)) ∨ x1 = 1 ∧ cl_n n l < cl_n n lS) := by
      intro ha
      rcases hx with ⟨e, el, hx⟩ | hx
      · refine Or.inl ⟨e, el, ?_⟩
        intro j hj
        by_cases ej : j = t
        · subst ej; exact ha
        · exact hx j (by omega)
      · exact Or.inr hx
    refine yc_alike bk bl (cl_Ed hn hE) tc w ct fd tk bd kp st hn hX hY _ (fun hA => br_f (by decide) ⟨hnz, hnz, yc_join hn bl tc w ct fd _ _ _ tk bd kp st (by omega) (by omega) _ ?_⟩) (fun hA => br_t rfl (hgo l x1 hI (hstay fun z => absurd z hA)))
    by_cases e : l (t / n) = l (t % n)
    · have ej : cl_J n (l (t / n)) (l (t % n)) l = l := by
        funext k
        by_cases c : k < n ∧ (l k = l (t / n) ∨ l k = l (t % n))
        · rw [cl_Jt c.1 c.2]
          have m := (cl_mn (l (t / n)) (l (t % n))).1
          have := c.2
          omega
        · exact cl_Jf c
      rw [if_pos e, ej]
      exact br_t rfl (hgo l x1 hI (hstay fun _ => e))
    · rw [if_neg e]
      have k := cl_Ak hE hX hY hA
      refine br_f (by decide) (hgo _ 1 (cl_IJ h0 hI hX hY (cl_ab hI (cl_Ec hE) hX hY k.1 k.2.1 k.2.2)) (Or.inr ⟨rfl, ?_⟩))
      have := cl_Jn hI.1 hX hY e
      rcases hx with ⟨_, el, _⟩ | hx
      · rw [← el]; exact this
      · omega
theorem yc_close4 {n : Nat} (hn : n ≤ 20) (hn0 : 0 < n) {sy fi se kd aa bb l0 : Nat → Nat} (bk : pt_B kd) (b0 : pt_B l0) (h0 : cl_V n l0) (hE : cl_E n sy fi se kd aa bb) (tc w ct fd : Int32) (tk bd kp st : Nat → Int32) (post : SY → Prop)
    (h : ∀ l, cl_I n sy fi se l0 l → cl_K n sy fi se l → post (nI n, tc, w, ct, fd, pt_f kd, pt_f aa, pt_f bb, pt_f l, tk, bd, kp, st)) :
    ∀ d t x1 l, t + d = 20 → cl_I n sy fi se l0 l → (x1 = 0 ∧ cl_K n sy fi se l ∨ x1 = 1 ∧ cl_n n l + t ≤ n) →
      wY_follow_4 post (d + 1) x1 (nI t) (nI n) tc w ct fd (pt_f kd) (pt_f aa) (pt_f bb) (pt_f l) tk bd kp st := by
  intro d
  induction d with
  | zero =>
    intro t x1 l ht hI hx
    refine br_t (nI_le (a := 20) (by omega) (by omega)) ?_
    rcases hx with hx | hx
    · exact h l hI hx.2
    · have := cl_n1 hI.1 hn0
      omega
  | succ d ih =>
    intro t x1 l ht hI hx
    refine br_f (nI_ge (b := 20) (by omega) (by omega)) ?_
    rcases hx with ⟨e, hk⟩ | ⟨e, hx⟩
    · exact br_t e (h l hI hk)
    · refine br_f (by rw [e]; decide) ⟨n * n + 1, yc_pass (lS := l) hn hn0 bk b0 h0 hE tc w ct fd tk bd kp st (nI t) post _ ?_ (n * n) 0 0 l (by omega) hI (Or.inl ⟨rfl, rfl, fun j hj => absurd hj (Nat.not_lt_zero _)⟩)⟩
      intro y1 l' hI' hy
      rw [nI_1 t]
      refine ih (t + 1) y1 l' (by omega) hI' ?_
      rcases hy with hy | hy
      · exact Or.inl hy
      · exact Or.inr ⟨hy.1, by omega⟩
theorem yc_close {n : Nat} (hn : n ≤ 20) (hn0 : 0 < n) {sy fi se kd aa bb l0 : Nat → Nat} (bk : pt_B kd) (b0 : pt_B l0) (h0 : cl_V n l0) (hE : cl_E n sy fi se kd aa bb) (tc w ct fd : Int32) (tk bd kp st : Nat → Int32) (post : SY → Prop)
    (h : ∀ l, cl_I n sy fi se l0 l → cl_K n sy fi se l → post (nI n, tc, w, ct, fd, pt_f kd, pt_f aa, pt_f bb, pt_f l, tk, bd, kp, st)) :
    wpY_follow post (nI n, tc, w, ct, fd, pt_f kd, pt_f aa, pt_f bb, pt_f l0, tk, bd, kp, st) :=
  ⟨21, yc_close4 hn hn0 bk b0 h0 hE tc w ct fd tk bd kp st post h 20 0 1 l0 (by omega) (cl_I0 h0) (Or.inr ⟨rfl, pt_c_le _ _⟩)⟩
theorem cl_V1 {n : Nat} {l : Nat → Nat} (hV : cl_V n l) : cl_V (n + 1) (pt_u l n n) := by
  intro i hi
  by_cases e : i = n
  · subst e; rw [pt_us, pt_us]; exact ⟨by omega, rfl⟩
  · have hl := hV i (by omega)
    have : l i ≠ n := by omega
    rw [pt_un e, pt_un this]; exact hl
theorem yc_make3 {n : Nat} (hn : n ≤ 20) {kd aa bb l sy fi se : Nat → Nat} (bk : pt_B kd) (ba : pt_B aa) (bb' : pt_B bb) (bl : pt_B l) (hV : cl_V n l) (tc w ct fd : Int32) (tk bd kp st : Nat → Int32) {x y z : Nat} (hx : x < 100) (hy : y < 100) (hz : z < 100) (post : Int32 → SY → Prop) :
    ∀ d i, i + d = n → 
    (∀ r, pt_s (fun j => decide (kd j = x ∧ aa j = y ∧ bb j = z)) d i = some r → post (nI r) (nI n, tc, w, ct, fd, pt_f kd, pt_f aa, pt_f bb, pt_f l, tk, bd, kp, st)) →
    (pt_s (fun j => decide (kd j = x ∧ aa j = y ∧ bb j = z)) d i = none → n = 20 → post (-2) (nI n, tc, w, ct, fd, pt_f kd, pt_f aa, pt_f bb, pt_f l, tk, bd, kp, st)) →
    (pt_s (fun j => decide (kd j = x ∧ aa j = y ∧ bb j = z)) d i = none → n < 20 → cl_E (n + 1) sy fi se (pt_u kd n x) (pt_u aa n y) (pt_u bb n z) ∧ ∀ l', cl_I (n + 1) sy fi se (pt_u l n n) l' → cl_K (n + 1) sy fi se l' → post (nI n) (nI (n + 1), tc, w, ct, fd, pt_f (pt_u kd n x), pt_f (pt_u aa n y), pt_f (pt_u bb n z), pt_f l', tk, bd, kp, st)) →
    wY_make_3 post (nI x) (nI y) (nI z) (nI n) tc w ct fd (pt_f kd) (pt_f aa) (pt_f bb) (pt_f l) tk bd kp st (d + 1) (nI i) := by
  intro d
  induction d with
  | zero =>
    intro i hi h1 h2 h3
    refine br_t (nI_le (by omega) (by omega)) (pk_eq n 20 (fun e => h2 rfl e) (fun e => ?_))
    have hlt : n < 20 := by omega
    obtain ⟨hE, h3⟩ := h3 rfl hlt
    have hi : vp_in (nI n) 20 := vp_in_nI (by omega) (by omega)
    have hb : n < 2 ^ 31 := by omega
    refine ⟨hi, nm_r (pt_up kd x hb) ⟨hi, nm_r (pt_up aa y hb) ⟨hi, nm_r (pt_up bb z hb) ⟨hi, nm_r (pt_up l n hb) (nm_r (nI_1 n) (yc_close (by omega) (by omega) (pt_uB bk hx) (pt_uB bl (by omega)) (cl_V1 hV) hE tc w ct fd tk bd kp st _ ?_))⟩⟩⟩⟩
    intro l' hI hK
    have := h3 l' hI hK
    show post (nI (n + 1) - 1) _
    rw [nI_pred n]
    exact this
  | succ d ih =>
    intro i hi g1 g2 g3
    have h1 : i < 2 ^ 31 := by omega
    have b1 := bk i
    have b2 := ba i
    have b3 := bb' i
    have hin : vp_in (nI i) 20 := vp_in_nI (by omega) (by omega)
    have hskip : decide (kd i = x ∧ aa i = y ∧ bb i = z) = false → ∀ t, t = nI i + 1 → wY_make_3 post (nI x) (nI y) (nI z) (nI n) tc w ct fd (pt_f kd) (pt_f aa) (pt_f bb) (pt_f l) tk bd kp st (d + 1) t := by
      intro hp
      rw [pt_sf hp] at g1 g2 g3
      exact nm_r (nI_1 i) (ih (i + 1) (by omega) g1 g2 g3)
    refine br_f (nI_ge (by omega) (by omega)) ⟨hin, pk_eq (kd i) x (fun e1 => ⟨hin, pk_eq (aa i) y (fun e2 => ⟨hin, pk_eq (bb i) z (fun e3 => ?_) (fun e3 => hskip (decide_eq_false fun z => e3 z.2.2)) (pt_at bb h1) rfl⟩) (fun e2 => hskip (decide_eq_false fun z => e2 z.2.1)) (pt_at aa h1) rfl⟩) (fun e1 => hskip (decide_eq_false fun z => e1 z.1)) (pt_at kd h1) rfl⟩
    exact g1 i (pt_st (decide_eq_true ⟨e1, e2, e3⟩))
theorem yc_make {n : Nat} (hn : n ≤ 20) {kd aa bb l sy fi se : Nat → Nat} (bk : pt_B kd) (ba : pt_B aa) (bb' : pt_B bb) (bl : pt_B l) (hV : cl_V n l) (tc w ct fd : Int32) (tk bd kp st : Nat → Int32) {x y z : Nat} (hx : x < 100) (hy : y < 100) (hz : z < 100) (post : Int32 → SY → Prop)
    (h1 : ∀ r, pt_s (fun j => decide (kd j = x ∧ aa j = y ∧ bb j = z)) n 0 = some r → post (nI r) (nI n, tc, w, ct, fd, pt_f kd, pt_f aa, pt_f bb, pt_f l, tk, bd, kp, st))
    (h2 : pt_s (fun j => decide (kd j = x ∧ aa j = y ∧ bb j = z)) n 0 = none → n = 20 → post (-2) (nI n, tc, w, ct, fd, pt_f kd, pt_f aa, pt_f bb, pt_f l, tk, bd, kp, st))
    (h3 : pt_s (fun j => decide (kd j = x ∧ aa j = y ∧ bb j = z)) n 0 = none → n < 20 → cl_E (n + 1) sy fi se (pt_u kd n x) (pt_u aa n y) (pt_u bb n z) ∧ ∀ l', cl_I (n + 1) sy fi se (pt_u l n n) l' → cl_K (n + 1) sy fi se l' → post (nI n) (nI (n + 1), tc, w, ct, fd, pt_f (pt_u kd n x), pt_f (pt_u aa n y), pt_f (pt_u bb n z), pt_f l', tk, bd, kp, st)) :
    wpY_make post (nI n, tc, w, ct, fd, pt_f kd, pt_f aa, pt_f bb, pt_f l, tk, bd, kp, st) (nI x) (nI y) (nI z) :=
  ⟨n + 1, yc_make3 hn bk ba bb' bl hV tc w ct fd tk bd kp st hx hy hz post n 0 (by omega) h1 h2 h3⟩
theorem yc_count4 {n : Nat} (hn : n ≤ 20) {l : Nat → Nat} (bl : pt_B l) (tc w ct fd : Int32) (kd aa bb tk bd kp st : Nat → Int32) (post : Int32 → Prop) (h : post (nI (cl_n n l))) :
    ∀ d i, i + d = n → wY_classes_4 post (nI n) tc w ct fd kd aa bb (pt_f l) tk bd kp st (d + 1) (nI (cl_n i l)) (nI i) := by
  intro d
  induction d with
  | zero =>
    intro i hi
    have e : i = n := by omega
    subst e
    exact br_t (nI_le (by omega) (by omega)) h
  | succ d ih =>
    intro i hi
    have h1 : i < 2 ^ 31 := by omega
    have b1 := bl i
    have ih := ih (i + 1) (by omega)
    refine br_f (nI_ge (by omega) (by omega)) ⟨vp_in_nI (by omega) (by omega), pk_eq (l i) i (fun e => ?_) (fun e => ?_) (pt_at l h1) rfl⟩
    · rw [show cl_n (i + 1) l = cl_n i l + 1 from pt_ct (decide_eq_true e)] at ih
      exact nm_r (nI_1 (cl_n i l)) (nm_r (nI_1 i) ih)
    · rw [show cl_n (i + 1) l = cl_n i l from pt_cf (decide_eq_false e)] at ih
      exact nm_r (nI_1 i) ih
theorem yc_count {n : Nat} (hn : n ≤ 20) {l : Nat → Nat} (bl : pt_B l) (tc w ct fd : Int32) (kd aa bb tk bd kp st : Nat → Int32) (post : Int32 → Prop) (h : post (nI (cl_n n l))) :
    wpY_classes post (nI n, tc, w, ct, fd, kd, aa, bb, pt_f l, tk, bd, kp, st) := ⟨n + 1, yc_count4 hn bl tc w ct fd kd aa bb tk bd kp st post h n 0 (by omega)⟩
