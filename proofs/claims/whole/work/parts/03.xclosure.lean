theorem xc_classOf3 {n : Nat} (hn : n ≤ 20) {sy fi se l : Nat → Nat} (bs : pt_B sy) (bl : pt_B l) (hc : ∀ i, i < n → fi i < n ∧ se i < n) (tc : Int32) (tk bd vl : Nat → Int32) {s f g : Nat} (hs : s < 100) (hf : f < 100) (hg : g < 100) (post : Int32 → Prop) :
    ∀ d i, i + d = n → post (pt_o ((pt_s (cl_p sy fi se l s f g) d i).map l)) → wX_classOf_3 post (nI s) (nI f) (nI g) (nI n) tc (pt_f sy) (pt_f fi) (pt_f se) (pt_f l) tk bd vl (d + 1) (nI i) := by
  intro d
  induction d with
  | zero => intro i hi h; exact br_t (nI_le (by omega) (by omega)) h
  | succ d ih =>
    intro i hi h
    have h1 : i < 2 ^ 31 := by omega
    have hx := hc i (by omega)
    have b1 := bs i
    have b2 := bl (fi i)
    have b3 := bl (se i)
    have hin : vp_in (nI i) 20 := vp_in_nI (by omega) (by omega)
    have hskip : cl_p sy fi se l s f g i = false → ∀ y, y = nI i + 1 → wX_classOf_3 post (nI s) (nI f) (nI g) (nI n) tc (pt_f sy) (pt_f fi) (pt_f se) (pt_f l) tk bd vl (d + 1) y :=
      fun hp => nm_r (nI_1 i) (ih (i + 1) (by omega) (by rw [pt_sf hp] at h; exact h))
    refine br_f (nI_ge (by omega) (by omega)) ⟨hin, pk_eq (sy i) s (fun e1 => ⟨hin, ?_, pk_eq (l (fi i)) f (fun e2 => ⟨hin, ?_, pk_eq (l (se i)) g (fun e3 => ⟨hin, ?_⟩) (fun e3 => hskip (decide_eq_false fun z => e3 z.2.2)) (pt_at2 l se h1 (by omega)) rfl⟩) (fun e2 => hskip (decide_eq_false fun z => e2 z.2.1)) (pt_at2 l fi h1 (by omega)) rfl⟩) (fun e1 => hskip (decide_eq_false fun z => e1 z.1)) (pt_at sy h1) rfl⟩
    · rw [pt_at fi h1]; exact vp_in_nI (by omega) (by omega)
    · rw [pt_at se h1]; exact vp_in_nI (by omega) (by omega)
    · rw [pt_st (decide_eq_true ⟨e1, e2, e3⟩)] at h
      rw [pt_at l h1]; exact h
theorem xc_classOf {n : Nat} (hn : n ≤ 20) {sy fi se l : Nat → Nat} (bs : pt_B sy) (bl : pt_B l) (hc : ∀ i, i < n → fi i < n ∧ se i < n) (tc : Int32) (tk bd vl : Nat → Int32) {s f g : Nat} (hs : s < 100) (hf : f < 100) (hg : g < 100) (post : Int32 → Prop)
    (h : post (pt_o ((pt_s (cl_p sy fi se l s f g) n 0).map l))) : wpX_classOf post (nI n, tc, pt_f sy, pt_f fi, pt_f se, pt_f l, tk, bd, vl) (nI s) (nI f) (nI g) :=
  ⟨n + 1, xc_classOf3 hn bs bl hc tc tk bd vl hs hf hg post n 0 (by omega) h⟩
theorem xc_nodeOf3 {n : Nat} (hn : n ≤ 20) {sy fi se : Nat → Nat} (bs : pt_B sy) (bf : pt_B fi) (be : pt_B se) (tc : Int32) (la tk bd vl : Nat → Int32) {s f g : Nat} (hs : s < 100) (hf : f < 100) (hg : g < 100) (post : Int32 → Prop) :
    ∀ d i, i + d = n → post (pt_o (pt_s (fun j => decide (sy j = s ∧ fi j = f ∧ se j = g)) d i)) → wX_nodeOf_3 post (nI s) (nI f) (nI g) (nI n) tc (pt_f sy) (pt_f fi) (pt_f se) la tk bd vl (d + 1) (nI i) := by
  intro d
  induction d with
  | zero => intro i hi h; exact br_t (nI_le (by omega) (by omega)) h
  | succ d ih =>
    intro i hi h
    have h1 : i < 2 ^ 31 := by omega
    have b1 := bs i
    have b2 := bf i
    have b3 := be i
    have hin : vp_in (nI i) 20 := vp_in_nI (by omega) (by omega)
    have hskip : decide (sy i = s ∧ fi i = f ∧ se i = g) = false → ∀ y, y = nI i + 1 → wX_nodeOf_3 post (nI s) (nI f) (nI g) (nI n) tc (pt_f sy) (pt_f fi) (pt_f se) la tk bd vl (d + 1) y :=
      fun hp => nm_r (nI_1 i) (ih (i + 1) (by omega) (by rw [pt_sf hp] at h; exact h))
    refine br_f (nI_ge (by omega) (by omega)) ⟨hin, pk_eq (sy i) s (fun e1 => ⟨hin, pk_eq (fi i) f (fun e2 => ⟨hin, pk_eq (se i) g (fun e3 => ?_) (fun e3 => hskip (decide_eq_false fun z => e3 z.2.2)) (pt_at se h1) rfl⟩) (fun e2 => hskip (decide_eq_false fun z => e2 z.2.1)) (pt_at fi h1) rfl⟩) (fun e1 => hskip (decide_eq_false fun z => e1 z.1)) (pt_at sy h1) rfl⟩
    rw [pt_st (decide_eq_true ⟨e1, e2, e3⟩)] at h
    exact h
theorem xc_join32 {n : Nat} (hn : n ≤ 20) {l : Nat → Nat} (bl : pt_B l) (tc : Int32) (sy fi se tk bd vl : Nat → Int32) {p q : Nat} (hp : p < 100) (hq : q < 100) (post : SX → Prop)
    (h : post (nI n, tc, sy, fi, se, pt_f (cl_J n p q l), tk, bd, vl)) :
    ∀ d i, i + d = n → wX_joinClasses_32 post (nI p) (nI q) (nI (if q ≤ p then q else p)) (nI n) tc (d + 1) (nI i) sy fi se (pt_f (cl_J i p q l)) tk bd vl := by
  intro d
  induction d with
  | zero =>
    intro i hi
    have e : i = n := by omega
    subst e
    exact br_t (nI_le (by omega) (by omega)) h
  | succ d ih =>
    intro i hi
    have h1 : i < 2 ^ 31 := by omega
    have b1 := bl i
    have hin : vp_in (nI i) 20 := vp_in_nI (by omega) (by omega)
    have ha : pt_f (cl_J i p q l) (nI i).toNatClampNeg = nI (l i) := by rw [pt_at _ h1, cl_Ji]
    have hup : l i = p ∨ l i = q → upd (pt_f (cl_J i p q l)) (nI i).toNatClampNeg (nI (if q ≤ p then q else p)) = pt_f (cl_J (i + 1) p q l) := by
      intro c
      rw [pt_up _ _ h1, cl_Js (n := n) c]
    have ih := ih (i + 1) (by omega)
    refine br_f (nI_ge (by omega) (by omega)) ⟨hin, pk_eq (l i) p (fun e1 => ⟨hin, nm_r (hup (Or.inl e1)) (nm_r (nI_1 i) ih)⟩) (fun e1 => ⟨hin, pk_eq (l i) q (fun e2 => ⟨hin, nm_r (hup (Or.inr e2)) (nm_r (nI_1 i) ih)⟩) (fun e2 => nm_r (nI_1 i) ?_) ha rfl⟩) ha rfl⟩
    rw [cl_Jk (fun z => z.elim e1 e2)]
    exact ih
theorem xc_join {n : Nat} (hn : n ≤ 20) {l : Nat → Nat} (bl : pt_B l) (tc : Int32) (sy fi se tk bd vl : Nat → Int32) {a b : Nat} (ha : a < 20) (hb : b < 20) (post : SX → Prop)
    (h : post (nI n, tc, sy, fi, se, pt_f (cl_J n (l a) (l b) l), tk, bd, vl)) :
    wpX_joinClasses post (nI n, tc, sy, fi, se, pt_f l, tk, bd, vl) (nI a) (nI b) := by
  have b1 := bl a
  have b2 := bl b
  have w := xc_join32 hn bl tc sy fi se tk bd vl b1 b2 post h n 0 (by omega)
  rw [cl_J0] at w
  refine ⟨vp_in_nI ha (by omega), nm_r (pt_at l (by omega)) ⟨vp_in_nI hb (by omega), nm_r (pt_at l (by omega)) (pk_le (l b) (l a) (fun e => ⟨n + 1, ?_⟩) (fun e => ⟨n + 1, ?_⟩))⟩⟩
  · rw [if_pos e] at w; exact w
  · rw [if_neg (by omega)] at w; exact w
theorem xc_pass {n : Nat} (hn : n ≤ 20) {sy fi se l0 lS : Nat → Nat} (bs : pt_B sy) (b0 : pt_B l0) (h0 : cl_V n l0) (hc : ∀ i, i < n → fi i < n ∧ se i < n) (tc : Int32) (tk bd vl : Nat → Int32) (x2 : Int32) (post : SX → Prop)
    (J4 : Int32 → Int32 → Int32 → Int32 → (Nat → Int32) → (Nat → Int32) → (Nat → Int32) → (Nat → Int32) → (Nat → Int32) → (Nat → Int32) → (Nat → Int32) → Prop)
    (hJ : ∀ x1 l, cl_I n sy fi se l0 l → (x1 = 0 ∧ cl_K n sy fi se l ∨ x1 = 1 ∧ cl_n n l < cl_n n lS) → J4 x1 (x2 + 1) (nI n) tc (pt_f sy) (pt_f fi) (pt_f se) (pt_f l) tk bd vl) :
    ∀ d i x1 l, i + d = n → cl_I n sy fi se l0 l → (x1 = 0 ∧ l = lS ∧ (∀ j, j < i → ∀ r, pt_s (cl_p sy fi se l (sy j) (l (fi j)) (l (se j))) n 0 = some r → l r = l j) ∨ x1 = 1 ∧ cl_n n l < cl_n n lS) →
      wX_joinCongruentNodes_18 post J4 x2 (d + 1) x1 (nI i) (nI n) tc (pt_f sy) (pt_f fi) (pt_f se) (pt_f l) tk bd vl := by
  intro d
  induction d with
  | zero =>
    intro i x1 l hi hI hx
    refine br_t (nI_le (by omega) (by omega)) (nm_e (hJ x1 l hI ?_))
    rcases hx with ⟨e, el, hx⟩ | hx
    · refine Or.inl ⟨e, ?_⟩
      intro a b ha hb e1 e2 e3
      obtain ⟨r, hr⟩ := pt_s_ex (p := cl_p sy fi se l (sy a) (l (fi a)) (l (se a))) n 0 a (by omega) (by omega) (decide_eq_true ⟨rfl, rfl, rfl⟩)
      have h1 := hx a (by omega) r hr
      rw [e1, e2, e3] at hr
      have h2 := hx b (by omega) r hr
      exact h1.symm.trans h2
    · exact Or.inr hx
  | succ d ih =>
    intro i x1 l hi hI hx
    have hin : i < n := by omega
    have h1 : i < 2 ^ 31 := by omega
    have hi20 : vp_in (nI i) 20 := vp_in_nI (by omega) (by omega)
    have bl := cl_B hn b0 hI
    have c := hc i hin
    obtain ⟨r, hr⟩ := pt_s_ex (p := cl_p sy fi se l (sy i) (l (fi i)) (l (se i))) n 0 i (by omega) (by omega) (decide_eq_true ⟨rfl, rfl, rfl⟩)
    have hr2 := pt_s_some _ _ _ hr
    have hrn : r < n := by omega
    have hk := of_decide_eq_true hr2.2.2
    have lr := hI.1 r hrn
    have lrn := cl_lt hI.1 hrn
    refine br_f (nI_ge (by omega) (by omega)) ⟨hi20, hi20, ?_, hi20, ?_, ?_⟩
    · rw [pt_at fi h1]; exact vp_in_nI (by omega) (by omega)
    · rw [pt_at se h1]; exact vp_in_nI (by omega) (by omega)
    · rw [pt_at2 l fi h1 (by omega), pt_at2 l se h1 (by omega), pt_at sy h1]
      refine xc_classOf hn bs bl hc tc tk bd vl (bs i) (bl _) (bl _) _ ?_
      rw [hr]
      have b1 := bl r
      have b2 := bl i
      refine ⟨hi20, pk_eq (l r) (l i) (fun e => nm_r (nI_1 i) (ih (i + 1) x1 l (by omega) hI ?_)) (fun e => ?_) rfl (pt_at l h1)⟩
      · rcases hx with ⟨e1, el, hx⟩ | hx
        · refine Or.inl ⟨e1, el, ?_⟩
          intro j hj r' hr'
          by_cases ej : j = i
          · subst ej
            rw [hr] at hr'
            cases hr'
            exact e
          · exact hx j (by omega) r' hr'
        · exact Or.inr hx
      · refine xc_join hn bl tc _ _ _ tk bd vl (by omega) (show l r < 20 by omega) _ (nm_r (nI_1 i) (ih (i + 1) 1 _ (by omega) ?_ ?_))
        · refine cl_IJ h0 hI hin lrn ?_
          intro M hV hK hM
          rw [cl_ab hI hc hin hrn hk.1.symm hk.2.1.symm hk.2.2.symm M hV hK hM]
          exact (hI.2.2.1 M hV hK hM r hrn).symm
        · refine Or.inr ⟨rfl, ?_⟩
          have := cl_Jn hI.1 hin lrn (by rw [lr.2]; exact fun z => e z.symm)
          rcases hx with ⟨_, el, _⟩ | hx
          · rw [← el]; exact this
          · omega
theorem xc_close4 {n : Nat} (hn : n ≤ 20) (hn0 : 0 < n) {sy fi se l0 : Nat → Nat} (bs : pt_B sy) (b0 : pt_B l0) (h0 : cl_V n l0) (hc : ∀ i, i < n → fi i < n ∧ se i < n) (tc : Int32) (tk bd vl : Nat → Int32) (post : SX → Prop)
    (h : ∀ l, cl_I n sy fi se l0 l → cl_K n sy fi se l → post (nI n, tc, pt_f sy, pt_f fi, pt_f se, pt_f l, tk, bd, vl)) :
    ∀ d t x1 l, t + d = 20 → cl_I n sy fi se l0 l → (x1 = 0 ∧ cl_K n sy fi se l ∨ x1 = 1 ∧ cl_n n l + t ≤ n) →
      wX_joinCongruentNodes_4 post (d + 1) x1 (nI t) (nI n) tc (pt_f sy) (pt_f fi) (pt_f se) (pt_f l) tk bd vl := by
  intro d
  induction d with
  | zero =>
    intro t x1 l ht hI hx
    refine br_t (nI_le (a := 20) (by omega) (by omega)) ?_
    rcases hx with hx | hx
    · exact h l hI hx.2
    · have := cl_n1 hI.1 hn0
      omega
  | succ d ih =>
    intro t x1 l ht hI hx
    refine br_f (nI_ge (b := 20) (by omega) (by omega)) ?_
    rcases hx with ⟨e, hk⟩ | ⟨e, hx⟩
    · exact br_t e (h l hI hk)
    · refine br_f (by rw [e]; decide) ⟨n + 1, xc_pass (lS := l) hn bs b0 h0 hc tc tk bd vl (nI t) post _ ?_ n 0 0 l (by omega) hI (Or.inl ⟨rfl, rfl, fun j hj => absurd hj (Nat.not_lt_zero _)⟩)⟩
      intro y1 l' hI' hy
      rw [nI_1 t]
      refine ih (t + 1) y1 l' (by omega) hI' ?_
      rcases hy with hy | hy
      · exact Or.inl hy
      · exact Or.inr ⟨hy.1, by omega⟩
theorem xc_close {n : Nat} (hn : n ≤ 20) (hn0 : 0 < n) {sy fi se l0 : Nat → Nat} (bs : pt_B sy) (b0 : pt_B l0) (h0 : cl_V n l0) (hc : ∀ i, i < n → fi i < n ∧ se i < n) (tc : Int32) (tk bd vl : Nat → Int32) (post : SX → Prop)
    (h : ∀ l, cl_I n sy fi se l0 l → cl_K n sy fi se l → post (nI n, tc, pt_f sy, pt_f fi, pt_f se, pt_f l, tk, bd, vl)) :
    wpX_joinCongruentNodes post (nI n, tc, pt_f sy, pt_f fi, pt_f se, pt_f l0, tk, bd, vl) :=
  ⟨21, xc_close4 hn hn0 bs b0 h0 hc tc tk bd vl post h 20 0 1 l0 (by omega) (cl_I0 h0) (Or.inr ⟨rfl, pt_c_le _ _⟩)⟩
theorem xc_made {n : Nat} (hn : n ≤ 20) {sy fi se l : Nat → Nat} (bs : pt_B sy) (bf : pt_B fi) (be : pt_B se) (bl : pt_B l) (hV : cl_V n l) (hc : ∀ i, i < n → fi i < n ∧ se i < n) (tc : Int32) (tk bd vl : Nat → Int32) {s f g : Nat} (hs : s < 100) (hf : f < n + 1) (hg : g < n + 1) (post : Int32 → SX → Prop)
    (h1 : ∀ r, pt_s (fun j => decide (sy j = s ∧ fi j = f ∧ se j = g)) n 0 = some r → post (nI r) (nI n, tc, pt_f sy, pt_f fi, pt_f se, pt_f l, tk, bd, vl))
    (h2 : pt_s (fun j => decide (sy j = s ∧ fi j = f ∧ se j = g)) n 0 = none → n = 20 → post (-2) (nI n, tc, pt_f sy, pt_f fi, pt_f se, pt_f l, tk, bd, vl))
    (h3 : pt_s (fun j => decide (sy j = s ∧ fi j = f ∧ se j = g)) n 0 = none → n < 20 → ∀ l', cl_I (n + 1) (pt_u sy n s) (pt_u fi n f) (pt_u se n g) (pt_u l n n) l' → cl_K (n + 1) (pt_u sy n s) (pt_u fi n f) (pt_u se n g) l' → post (nI n) (nI (n + 1), tc, pt_f (pt_u sy n s), pt_f (pt_u fi n f), pt_f (pt_u se n g), pt_f l', tk, bd, vl)) :
    wpX_nodeMade post (nI n, tc, pt_f sy, pt_f fi, pt_f se, pt_f l, tk, bd, vl) (nI s) (nI f) (nI g) := by
  refine ⟨n + 1, xc_nodeOf3 hn bs bf be tc _ tk bd vl hs (by omega) (by omega) _ n 0 (by omega) ?_⟩
  cases hr : pt_s (fun j => decide (sy j = s ∧ fi j = f ∧ se j = g)) n 0 with
  | some r =>
    have := pt_s_some _ _ _ hr
    exact br_f (pt_m1 (by omega)) (h1 r hr)
  | none =>
    refine br_t rfl (pk_lt n 20 (fun hlt => ?_) (fun hge => h2 hr (by omega)))
    have hi : vp_in (nI n) 20 := vp_in_nI (by omega) (by omega)
    have hb : n < 2 ^ 31 := by omega
    refine ⟨hi, nm_r (pt_up sy s hb) ⟨hi, nm_r (pt_up fi f hb) ⟨hi, nm_r (pt_up se g hb) ⟨hi, nm_r (pt_up l n hb) (nm_r (nI_1 n) (xc_close (by omega) (by omega) (pt_uB bs hs) (pt_uB bl (by omega)) ?_ ?_ tc tk bd vl _ (fun l' => h3 hr hlt l')))⟩⟩⟩⟩
    · intro i hi
      by_cases e : i = n
      · subst e; rw [pt_us, pt_us]; exact ⟨by omega, rfl⟩
      · have hl := hV i (by omega)
        have : l i ≠ n := by omega
        rw [pt_un e, pt_un this]; exact hl
    · intro i hi
      by_cases e : i = n
      · subst e; rw [pt_us, pt_us]; exact ⟨hf, hg⟩
      · have := hc i (by omega)
        rw [pt_un e, pt_un e]; exact ⟨by omega, by omega⟩
theorem xc_count4 {n : Nat} (hn : n ≤ 20) {l : Nat → Nat} (bl : pt_B l) (tc : Int32) (sy fi se tk bd vl : Nat → Int32) (post : Int32 → Prop) (h : post (nI (cl_n n l))) :
    ∀ d i, i + d = n → wX_classCount_4 post (nI n) tc sy fi se (pt_f l) tk bd vl (d + 1) (nI (cl_n i l)) (nI i) := by
  intro d
  induction d with
  | zero =>
    intro i hi
    have e : i = n := by omega
    subst e
    exact br_t (nI_le (by omega) (by omega)) h
  | succ d ih =>
    intro i hi
    have h1 : i < 2 ^ 31 := by omega
    have b1 := bl i
    have ih := ih (i + 1) (by omega)
    refine br_f (nI_ge (by omega) (by omega)) ⟨vp_in_nI (by omega) (by omega), pk_eq (l i) i (fun e => ?_) (fun e => ?_) (pt_at l h1) rfl⟩
    · rw [show cl_n (i + 1) l = cl_n i l + 1 from pt_ct (decide_eq_true e)] at ih
      exact nm_r (nI_1 (cl_n i l)) (nm_r (nI_1 i) ih)
    · rw [show cl_n (i + 1) l = cl_n i l from pt_cf (decide_eq_false e)] at ih
      exact nm_r (nI_1 i) ih
theorem xc_count {n : Nat} (hn : n ≤ 20) {l : Nat → Nat} (bl : pt_B l) (tc : Int32) (sy fi se tk bd vl : Nat → Int32) (post : Int32 → Prop) (h : post (nI (cl_n n l))) :
    wpX_classCount post (nI n, tc, sy, fi, se, pt_f l, tk, bd, vl) := ⟨n + 1, xc_count4 hn bl tc sy fi se tk bd vl post h n 0 (by omega)⟩
