theorem mk_E {n : Nat} {sy fi se kd aa bb : Nat → Nat} (hE : cl_E n sy fi se kd aa bb) {s f g x y z : Nat}
    (hN : (x = 0 ∧ s = 10 + y ∧ y < 6 ∧ f = 0 ∧ g = 0 ∧ z = 0) ∨ (x = 1 ∧ s = 20 ∧ f = y ∧ y < n ∧ g = 0 ∧ z = 0) ∨ (x = 2 ∧ s = 21 ∧ f = y ∧ y < n ∧ g = z ∧ z < n))
    (hnew : ∀ j, j < n → ¬ (kd j = x ∧ aa j = y ∧ bb j = z)) : cl_E (n + 1) (pt_u sy n s) (pt_u fi n f) (pt_u se n g) (pt_u kd n x) (pt_u aa n y) (pt_u bb n z) := by
  refine ⟨?_, ?_⟩
  · intro k hk
    by_cases e : k = n
    · subst e
      rw [pt_us, pt_us, pt_us, pt_us, pt_us, pt_us]
      omega
    · have := hE.1 k (by omega)
      rw [pt_un e, pt_un e, pt_un e, pt_un e, pt_un e, pt_un e]
      omega
  · intro i j hi hj
    by_cases e : i = n
    · by_cases e2 : j = n
      · intro _ _ _; omega
      · subst e
        rw [pt_us, pt_us, pt_un e2, pt_un e2]
        intro h1 h2 h3
        have := hE.1 j (by omega)
        exact absurd ⟨by omega, by omega, by omega⟩ (hnew j (by omega))
    · by_cases e2 : j = n
      · subst e2
        rw [pt_us, pt_us, pt_un e, pt_un e]
        intro h1 h2 h3
        have := hE.1 i (by omega)
        exact absurd ⟨by omega, by omega, by omega⟩ (hnew i (by omega))
      · rw [pt_un e, pt_un e, pt_un e2, pt_un e2]
        exact hE.2 i j (by omega) (by omega)
theorem mk_p {n : Nat} {sy fi se kd aa bb : Nat → Nat} (hE : cl_E n sy fi se kd aa bb) {s f g x y z : Nat}
    (hN : (x = 0 ∧ s = 10 + y ∧ y < 6 ∧ f = 0 ∧ g = 0 ∧ z = 0) ∨ (x = 1 ∧ s = 20 ∧ f = y ∧ y < n ∧ g = 0 ∧ z = 0) ∨ (x = 2 ∧ s = 21 ∧ f = y ∧ y < n ∧ g = z ∧ z < n)) :
    pt_s (fun j => decide (kd j = x ∧ aa j = y ∧ bb j = z)) n 0 = pt_s (fun j => decide (sy j = s ∧ fi j = f ∧ se j = g)) n 0 := by
  refine pt_s_cg n 0 fun j _ hj => decide_eq_decide.mpr ?_
  have := hE.1 j (by omega)
  constructor
  · intro h; omega
  · intro h; omega
theorem mk_X {n c : Nat} {sy fi se l tk kd aa bb : Nat → Nat} (G : pt_G n c sy fi se l tk kd aa bb) {s f g x y z : Nat}
    (hN : (x = 0 ∧ s = 10 + y ∧ y < 6 ∧ f = 0 ∧ g = 0 ∧ z = 0) ∨ (x = 1 ∧ s = 20 ∧ f = y ∧ y < n ∧ g = 0 ∧ z = 0) ∨ (x = 2 ∧ s = 21 ∧ f = y ∧ y < n ∧ g = z ∧ z < n))
    (bd vl : Nat → Int32) (w ct fd : Int32) (bd' kp st : Nat → Int32) (PX : Int32 → SX → Prop)
    (H : ∀ (r : Int32) (n' : Nat) (sy' fi' se' l' kd' aa' bb' : Nat → Nat), pt_G n' c sy' fi' se' l' tk kd' aa' bb' →
      (∀ post : Int32 → SY → Prop, post r (nI n', nI c, w, ct, fd, pt_f kd', pt_f aa', pt_f bb', pt_f l', pt_f tk, bd', kp, st) → wpY_make post (nI n, nI c, w, ct, fd, pt_f kd, pt_f aa, pt_f bb, pt_f l, pt_f tk, bd', kp, st) (nI x) (nI y) (nI z)) →
      PX r (nI n', nI c, pt_f sy', pt_f fi', pt_f se', pt_f l', pt_f tk, bd, vl)) :
    wpX_nodeMade PX (nI n, nI c, pt_f sy, pt_f fi, pt_f se, pt_f l, pt_f tk, bd, vl) (nI s) (nI f) (nI g) := by
  have G' := G
  obtain ⟨hn, hc, ⟨bs, bf, be, bl, bt, bk, ba, bbb⟩, hE, hV, hK, hT⟩ := G'
  have hp := mk_p hE hN
  have q1 : s < 100 ∧ f < n + 1 ∧ g < n + 1 ∧ x < 100 ∧ y < 100 ∧ z < 100 := by omega
  refine xc_made hn bs bf be bl hV (cl_Ec hE) _ _ bd vl q1.1 q1.2.1 q1.2.2.1 PX (fun r hr => ?_) (fun hr e => ?_) (fun hr hlt l' hI hK' => ?_)
  · refine H (nI r) n sy fi se l kd aa bb G (fun post h => yc_make (sy := sy) (fi := fi) (se := se) hn bk ba bbb bl hV _ _ _ _ _ _ _ _ q1.2.2.2.1 q1.2.2.2.2.1 q1.2.2.2.2.2 post (fun r' hr' => ?_) (fun hr' => ?_) (fun hr' => ?_))
    · rw [hp, hr] at hr'; cases hr'; exact h
    · rw [hp, hr] at hr'; cases hr'
    · rw [hp, hr] at hr'; cases hr'
  · refine H (-2) n sy fi se l kd aa bb G (fun post h => yc_make (sy := sy) (fi := fi) (se := se) hn bk ba bbb bl hV _ _ _ _ _ _ _ _ q1.2.2.2.1 q1.2.2.2.2.1 q1.2.2.2.2.2 post (fun r' hr' => ?_) (fun _ _ => h) (fun _ hlt => ?_))
    · rw [hp, hr] at hr'; cases hr'
    · omega
  · have hE' : cl_E (n + 1) (pt_u sy n s) (pt_u fi n f) (pt_u se n g) (pt_u kd n x) (pt_u aa n y) (pt_u bb n z) := by
      refine mk_E hE hN (fun j hj hh => ?_)
      obtain ⟨r, hr'⟩ := pt_s_ex (p := fun j => decide (kd j = x ∧ aa j = y ∧ bb j = z)) n 0 j (by omega) (by omega) (decide_eq_true hh)
      rw [hp, hr] at hr'
      cases hr'
    have bu : pt_B (pt_u l n n) := pt_uB bl (by omega)
    refine H (nI n) (n + 1) _ _ _ l' _ _ _ ⟨by omega, hc, ⟨pt_uB bs q1.1, pt_uB bf (by omega), pt_uB be (by omega), cl_B (by omega) bu hI, bt, pt_uB bk q1.2.2.2.1, pt_uB ba q1.2.2.2.2.1, pt_uB bbb q1.2.2.2.2.2⟩, hE', hI.1, hK', hT⟩ (fun post h => yc_make hn bk ba bbb bl hV _ _ _ _ _ _ _ _ q1.2.2.2.1 q1.2.2.2.2.1 q1.2.2.2.2.2 post (fun r' hr' => ?_) (fun _ hr' => ?_) (fun _ _ => ⟨hE', fun l'' hI'' hK'' => ?_⟩))
    · rw [hp, hr] at hr'; cases hr'
    · omega
    · rw [cl_U hI'' hK'' hI hK']; exact h
theorem xi_no {tc : Int32} {sy fi se la tk bd vl : Nat → Int32} {post : Int32 → Prop} {n : Nat} {p : Int32} (h : p < 0 ∨ nI n ≤ p) (h0 : post 0) : wpX_isNode post (nI n, tc, sy, fi, se, la, tk, bd, vl) p := by
  by_cases e : p < 0
  · exact br_t e h0
  · exact br_f e (br_t (h.resolve_left e) h0)
theorem xi_yes {tc : Int32} {sy fi se la tk bd vl : Nat → Int32} {post : Int32 → Prop} {n j : Nat} (hn : n ≤ 20) (h : j < n) (h1 : post 1) : wpX_isNode post (nI n, tc, sy, fi, se, la, tk, bd, vl) (nI j) :=
  br_f (nI_pos (by omega)) (br_f (nI_ge h (by omega)) h1)
theorem yi_no {tc w ct fd : Int32} {kd aa bb la tk bd kp st : Nat → Int32} {post : Int32 → Prop} {n : Nat} {p : Int32} (h : p < 0 ∨ nI n ≤ p) (h0 : post 0) : wpY_isNode post (nI n, tc, w, ct, fd, kd, aa, bb, la, tk, bd, kp, st) p := by
  by_cases e : p < 0
  · exact br_t e h0
  · exact br_f e (br_t (h.resolve_left e) h0)
theorem yi_yes {tc w ct fd : Int32} {kd aa bb la tk bd kp st : Nat → Int32} {post : Int32 → Prop} {n j : Nat} (hn : n ≤ 20) (h : j < n) (h1 : post 1) : wpY_isNode post (nI n, tc, w, ct, fd, kd, aa, bb, la, tk, bd, kp, st) (nI j) :=
  br_f (nI_pos (by omega)) (br_f (nI_ge h (by omega)) h1)
theorem ni_cs (p : Int32) {n : Nat} (hn : n ≤ 20) : (p < 0 ∨ nI n ≤ p) ∨ ∃ j : Nat, j < n ∧ p = nI j := by
  rcases pk_ix p (n := n) (by omega) with h | h | h
  · exact Or.inl (Or.inl h)
  · exact Or.inl (Or.inr h)
  · exact Or.inr h
theorem ys_Q1 {n c : Nat} {sy fi se l tk : Nat → Nat} : ys_Q n c sy fi se l tk (-1) (ev_q n c sy fi se l tk) := by
  intro s hs
  refine ⟨fun h => ?_, fun v h => ?_⟩
  · unfold ev_q; rw [h]; rfl
  · unfold ev_q
    rw [h]
    exact ⟨fun _ => Or.inl (by decide), fun _ => rfl⟩
theorem ys_Q2 {n c : Nat} {sy fi se l tk : Nat → Nat} (bl : pt_B l) (a : Nat) : ys_Q n c sy fi se l tk (nI (l a)) (ev_qa n c sy fi se l tk (l a)) := by
  intro s hs
  have b := bl a
  refine ⟨fun h => ?_, fun v h => ?_⟩
  · exact decide_eq_false (by rw [h]; exact fun z => nomatch z)
  · have hv := ev_Vb bl hs h
    unfold ev_qa
    rw [h]
    refine ⟨fun z => Or.inr ?_, fun z => decide_eq_true ?_⟩
    · have := of_decide_eq_true z
      cases this
      rfl
    · rw [(nI_eq (by omega) (by omega)).mp (z.resolve_left (nI_pos (by omega)))]
def tk_ok (t : Nat) : Prop := t < 3 ∨ 10 ≤ t ∧ t < 16 ∨ t = 20 ∨ t = 21
theorem tk_17 {t : Nat} (ht : t < 2 ^ 31) (z : Nat) (hz : z < 2) (nc tc : Int32) (sy fi se la tk bd vl : Nat → Int32) (post : Int32 → Prop) (h1 : (t < 3 ∨ z = 1 ∨ t = 20 ∨ t = 21) → post 1) (h0 : ¬ (t < 3 ∨ z = 1 ∨ t = 20 ∨ t = 21) → post 0) :
    wX_isToken_17 post (nI t) (nI z) nc tc sy fi se la tk bd vl := by
  refine br_f (c := nI t < 0) (nI_pos ht) (pk_le 3 t (fun e => ?_) (fun e => ?_))
  · exact br_t rfl (pk_eq z 0 (fun e0 => pk_eq t 20 (fun e1 => h1 (by omega)) (fun e1 => pk_eq t 21 (fun e2 => h1 (by omega)) (fun e2 => h0 (by omega)))) (fun e0 => h1 (by omega)))
  · exact br_f (by decide) (h1 (by omega))
theorem tk_X (p : Int32) (u : SX) (post : Int32 → Prop) (h1 : ∀ t, p = nI t → tk_ok t → post 1) (h0 : (∀ t, p = nI t → ¬ tk_ok t) → post 0) : wpX_isToken post u p := by
  obtain ⟨_, _, _, _, _, _, _, _, _⟩ := u
  by_cases n0 : p < 0
  · have hno : post 0 := h0 (fun t e ht => by
      rw [e] at n0
      exact absurd n0 (nI_pos (by unfold tk_ok at ht; omega)))
    have p10 : p < 10 := Int32.lt_of_lt_of_le n0 (by decide)
    refine br_t p10 ?_
    refine br_t (c := p < 0) n0 ?_
    refine br_t rfl ?_
    refine br_t rfl ?_
    refine br_f (fun e => by rw [e] at n0; exact absurd n0 (by decide)) ?_
    exact br_f (fun e => by rw [e] at n0; exact absurd n0 (by decide)) hno
  · obtain ⟨t, ht, rfl⟩ := nI_of n0
    have yes : tk_ok t → post 1 := h1 t rfl
    have no : ¬ tk_ok t → post 0 := fun z => h0 (fun t' e ht' => by
      rw [nI_eq ht (by unfold tk_ok at ht'; omega)] at e
      exact z (e ▸ ht'))
    unfold tk_ok at yes no
    refine pk_lt t 10 (fun e => ?_) (fun e => pk_le 16 t (fun e2 => ?_) (fun e2 => ?_))
    · exact tk_17 ht 0 (by omega) _ _ _ _ _ _ _ _ _ post (fun z => yes (by omega)) (fun z => no (by omega))
    · exact tk_17 ht 0 (by omega) _ _ _ _ _ _ _ _ _ post (fun z => yes (by omega)) (fun z => no (by omega))
    · exact tk_17 ht 1 (by omega) _ _ _ _ _ _ _ _ _ post (fun z => yes (by omega)) (fun z => no (by omega))
theorem tk_Y (p : Int32) (post : Int32 → SY → Prop) (n tc w ct fd : Int32) (kd aa bb la tk bd kp st : Nat → Int32) (y7 : ¬ tc = 7) (h1 : (∃ t, p = nI t ∧ tk_ok t) → wY_token_47 post p n tc w ct fd kd aa bb la tk bd kp st) (h0 : (∀ t, p = nI t → ¬ tk_ok t) → post (-1) (n, tc, w, ct, fd, kd, aa, bb, la, tk, bd, kp, st)) :
    wpY_token post (n, tc, w, ct, fd, kd, aa, bb, la, tk, bd, kp, st) p := by
  by_cases n0 : p < 0
  · exact br_f y7 (br_t n0 (h0 (fun t e ht => by
      rw [e] at n0
      exact absurd n0 (nI_pos (by unfold tk_ok at ht; omega)))))
  · obtain ⟨t, ht, rfl⟩ := nI_of n0
    have yes : tk_ok t → wY_token_47 post (nI t) n tc w ct fd kd aa bb la tk bd kp st := fun z => h1 ⟨t, rfl, z⟩
    have no : ¬ tk_ok t → post (-1) (n, tc, w, ct, fd, kd, aa, bb, la, tk, bd, kp, st) := fun z => h0 (fun t' e ht' => by
      rw [nI_eq ht (by unfold tk_ok at ht'; omega)] at e
      exact z (e ▸ ht'))
    unfold tk_ok at yes no
    have t33 : (t ≤ 2 ∨ 10 ≤ t) → t ≤ 21 → wY_token_33 post (nI t) n tc w ct fd kd aa bb la tk bd kp st :=
      fun a b => pk_le t 15 (fun e => yes (by omega)) (fun e => pk_le 20 t (fun e2 => yes (by omega)) (fun e2 => no (by omega)))
    exact br_f y7 (br_f n0 (pk_lt 21 t (fun e => no (by omega)) (fun e => pk_le t 2 (fun e2 => t33 (by omega) (by omega)) (fun e2 => pk_lt t 10 (fun e3 => no (by omega)) (fun e3 => t33 (by omega) (by omega))))))
