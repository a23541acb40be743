def ev_d (s v : Nat) : Nat := if v = 0 then s / 400 else if v = 1 then s / 20 % 20 else s % 20
def ev_T (n c : Nat) (l tk : Nat → Nat) (v k : Nat) : Prop := wh_H tk c v ∧ k < n ∧ l k = k ∨ ¬ wh_H tk c v ∧ k = 0
def ev_P (n c : Nat) (l tk : Nat → Nat) (s : Nat) : Prop := ∀ v, v < 3 → ev_T n c l tk v (ev_d s v)
noncomputable def ev_V (n c : Nat) (sy fi se l tk : Nat → Nat) (s : Nat) : Option Nat := @ite _ (ev_P n c l tk s) (Classical.propDecidable _) (ev_h (ev_r (ev_f n sy fi se l) (ev_d s) tk c [])) none
def ev_D (bd : Nat → Int32) (s : Nat) : Nat → Int32 := upd (upd (upd bd 0 (nI (s / 400))) 1 (nI (s / 20 % 20))) 2 (nI (s % 20))
theorem ev_Vt {n c : Nat} {sy fi se l tk : Nat → Nat} {s : Nat} (h : ev_P n c l tk s) : ev_V n c sy fi se l tk s = ev_h (ev_r (ev_f n sy fi se l) (ev_d s) tk c []) := if_pos h
theorem ev_Vf {n c : Nat} {sy fi se l tk : Nat → Nat} {s : Nat} (h : ¬ ev_P n c l tk s) : ev_V n c sy fi se l tk s = none := if_neg h
theorem ev_Dv {bd : Nat → Int32} {s v : Nat} (h : v < 3) : ev_D bd s v = nI (ev_d s v) := by
  rcases (show v = 0 ∨ v = 1 ∨ v = 2 from by omega) with e | e | e <;> subst e <;> rfl
theorem ev_d20 {s : Nat} (h : s < 8000) (v : Nat) : ev_d s v < 20 := by
  unfold ev_d
  split
  · omega
  · split <;> omega
theorem ev_bs {n : Nat} {sy fi se l dg : Nat → Nat} (bl : pt_B l) (hdg : ∀ v, dg v < 100) {t : Nat} {st : List (Option Nat)} (h : ev_b st) : ev_b (ev_t (ev_f n sy fi se l) dg t st) := by
  unfold ev_t
  split
  · exact ev_bc (fun v hv => by cases hv; exact hdg _) h
  · split
    · exact ev_bc (fun v hv => ev_fb bl hv) h
    · split
      · cases st with
        | nil => exact h
        | cons x r => exact ev_bc (fun v hv => ev_b1 bl hv) (ev_bt h)
      · cases st with
        | nil => exact h
        | cons x r =>
          cases r with
          | nil => exact ev_bt h
          | cons y r => exact ev_bc (fun v hv => ev_bb bl hv) (ev_bt (ev_bt h))
theorem ev_br {n : Nat} {sy fi se l dg tk : Nat → Nat} (bl : pt_B l) (hdg : ∀ v, dg v < 100) : ∀ i (st : List (Option Nat)), ev_b st → ev_b (ev_r (ev_f n sy fi se l) dg tk i st) := by
  intro i
  induction i with
  | zero => intro st h; exact h
  | succ i ih => intro st h; exact ih _ (ev_bs bl hdg h)
theorem ev_hb {st : List (Option Nat)} (h : ev_b st) {v : Nat} (e : ev_h st = some v) : v < 100 := by
  cases st with
  | nil => cases e
  | cons x r =>
    have e : x = some v := e
    exact h v (by rw [e]; exact List.mem_cons_self)
theorem ev_b0 : ev_b [] := fun _ h => nomatch h
theorem ev_Vb {n c : Nat} {sy fi se l tk : Nat → Nat} (bl : pt_B l) {s : Nat} (hs : s < 8000) {v : Nat} (e : ev_V n c sy fi se l tk s = some v) : v < 100 := by
  by_cases h : ev_P n c l tk s
  · rw [ev_Vt h] at e
    exact ev_hb (ev_br bl (fun v => Nat.lt_trans (ev_d20 hs v) (by omega)) c [] ev_b0) e
  · rw [ev_Vf h] at e; cases e
theorem xv_isNode {n k : Nat} (hn : n ≤ 20) (hk : k < 2 ^ 31) (tc : Int32) (sy fi se la tk bd vl : Nat → Int32) (post : Int32 → Prop) (h1 : k < n → post 1) (h0 : ¬ k < n → post 0) : wpX_isNode post (nI n, tc, sy, fi, se, la, tk, bd, vl) (nI k) :=
  br_f (nI_pos hk) (pk_le n k (fun e => h0 (by omega)) (fun e => h1 e))
theorem xv_may {n c : Nat} (hn : n ≤ 20) (hc : c ≤ 7) {l tk : Nat → Nat} (bl : pt_B l) (bt : pt_B tk) (sy fi se bd vl : Nat → Int32) {v k : Nat} (hv : v < 100) (hk : k < 100) (post : Int32 → Prop) (h1 : ev_T n c l tk v k → post 1) (h0 : ¬ ev_T n c l tk v k → post 0) :
    wpX_mayBind post (nI n, nI c, sy, fi, se, pt_f l, pt_f tk, bd, vl) (nI v) (nI k) := by
  have b := bl k
  refine xw_has hc bt _ _ _ _ _ _ _ hv _ (fun hH => br_f (by decide) (xv_isNode hn (by omega) _ _ _ _ _ _ _ _ _ (fun hk' => br_f (by decide) ⟨vp_in_nI (by omega) (by omega), pk_eq (l k) k (fun e => h1 (Or.inl ⟨hH, hk', e⟩)) (fun e => h0 ?_) (pt_at l (by omega)) rfl⟩) (fun hk' => br_t rfl (h0 ?_)))) (fun hH => br_t rfl (pk_eq k 0 (fun e => h1 (Or.inr ⟨hH, e⟩)) (fun e => h0 ?_)))
  · exact fun z => z.elim (fun z => e z.2.2) (fun z => z.1 hH)
  · exact fun z => z.elim (fun z => hk' z.2.1) (fun z => z.1 hH)
  · exact fun z => z.elim (fun z => hH z.1) (fun z => e z.2)
theorem xv_bind36 {n c : Nat} (hn : n ≤ 20) (hc : c ≤ 7) {l tk dg : Nat → Nat} (bl : pt_B l) (bt : pt_B tk) (hdg : ∀ v, dg v < 100) (sy fi se bd vl : Nat → Int32) (hbd : ∀ v, v < 3 → bd v = nI (dg v)) (post : Int32 → SX → Prop)
    (h1 : (∀ v, v < 3 → ev_T n c l tk v (dg v)) → post 1 (nI n, nI c, sy, fi, se, pt_f l, pt_f tk, bd, vl)) (h0 : ¬ (∀ v, v < 3 → ev_T n c l tk v (dg v)) → post 0 (nI n, nI c, sy, fi, se, pt_f l, pt_f tk, bd, vl)) :
    ∀ d i, i + d = 3 → (∀ v, v < i → ev_T n c l tk v (dg v)) → wX_bindVariables_36 post (nI n) (nI c) sy fi se (pt_f l) (pt_f tk) bd vl (d + 1) (nI i) := by
  intro d
  induction d with
  | zero =>
    intro i hi hj
    have e : i = 3 := by omega
    subst e
    exact br_t (nI_le (a := 3) (by omega) (by omega)) (h1 hj)
  | succ d ih =>
    intro i hi hj
    refine br_f (nI_ge (b := 3) (by omega) (by omega)) ⟨vp_in_nI (by omega) (by omega), ?_⟩
    rw [nI_clamp (by omega), hbd i (by omega)]
    refine xv_may hn hc bl bt _ _ _ _ _ (by omega) (hdg i) _ (fun e => br_f (by decide) (nm_r (nI_1 i) (ih (i + 1) (by omega) ?_))) (fun e => br_t rfl (h0 fun z => e (z i (by omega))))
    intro v hv
    by_cases ev : v = i
    · subst ev; exact e
    · exact hj v (by omega)
theorem xv_bind {n c : Nat} (hn : n ≤ 20) (hc : c ≤ 7) {l tk : Nat → Nat} (bl : pt_B l) (bt : pt_B tk) (sy fi se bd vl : Nat → Int32) {s : Nat} (hs : s < 8000) (post : Int32 → SX → Prop)
    (h1 : ev_P n c l tk s → post 1 (nI n, nI c, sy, fi, se, pt_f l, pt_f tk, ev_D bd s, vl)) (h0 : ¬ ev_P n c l tk s → post 0 (nI n, nI c, sy, fi, se, pt_f l, pt_f tk, ev_D bd s, vl)) :
    wpX_bindVariables post (nI n, nI c, sy, fi, se, pt_f l, pt_f tk, bd, vl) (nI s) := by
  have e0 : nI s / 400 = nI (s / 400) := pk_div (d := 400) (by omega) (by omega) (by omega)
  have e1 : nI s / 20 = nI (s / 20) := pk_div (d := 20) (by omega) (by omega) (by omega)
  have e2 : nI (s / 20) - nI (s / 20) / 20 * 20 = nI (s / 20 % 20) := pk_rem (d := 20) (by omega) (by omega) (by omega)
  have e3 : nI s - nI s / 20 * 20 = nI (s % 20) := pk_rem (d := 20) (by omega) (by omega) (by omega)
  refine ⟨by decide, nm_r (congrArg (upd bd 0) e0) ⟨by decide, by decide, nm_r (e' := upd (upd bd 0 (nI (s / 400))) 1 (nI (s / 20 % 20))) (by rw [e1, e2]) ⟨by decide, nm_r (e' := ev_D bd s) (by rw [e3]; rfl) ⟨4, xv_bind36 hn hc bl bt (fun v => Nat.lt_trans (ev_d20 hs v) (by omega)) _ _ _ _ _ (fun v hv => ev_Dv hv) post h1 h0 3 0 (by omega) (fun v hv => absurd hv (Nat.not_lt_zero _))⟩⟩⟩⟩
theorem xv_value {n c : Nat} {sy fi se l tk kd aa bb : Nat → Nat} (G : pt_G n c sy fi se l tk kd aa bb) (hW : wh_W tk c) (bd vl : Nat → Int32) {s : Nat} (hs : s < 8000) (post : Int32 → SX → Prop)
    (h : ∀ vl', post (pt_o (ev_V n c sy fi se l tk s)) (nI n, nI c, pt_f sy, pt_f fi, pt_f se, pt_f l, pt_f tk, ev_D bd s, vl')) :
    wpX_valueUnder post (nI n, nI c, pt_f sy, pt_f fi, pt_f se, pt_f l, pt_f tk, bd, vl) (nI s) := by
  have G' := G
  obtain ⟨hn, hc, ⟨bs, bf, be, bl, bt, bk, ba, bbb⟩, hE, hV, hK, hT⟩ := G'
  refine xv_bind hn hc bl bt _ _ _ _ _ hs _ (fun hP => br_f (by decide) (nm_r (wh_m1 _) ⟨c + 1, xv_19 G hW (dg := ev_d s) (fun v => Nat.lt_trans (ev_d20 hs v) (by omega)) (fun v hv => ev_Dv hv) post c [] vl (by omega) ?_ ?_ True.intro ev_b0 (fun z => nomatch z) ?_⟩)) (fun hP => br_t rfl ?_)
  · show (0 : Int) = _
    omega
  · show 0 + c ≤ c
    omega
  · rw [ev_Vt hP] at h; exact h
  · rw [ev_Vf hP] at h; exact h vl
noncomputable def ev_q (n c : Nat) (sy fi se l tk : Nat → Nat) : Nat → Bool := fun s => (ev_V n c sy fi se l tk s).isSome
noncomputable def ev_qa (n c : Nat) (sy fi se l tk : Nat → Nat) (a : Nat) : Nat → Bool := fun s => decide (ev_V n c sy fi se l tk s = some a)
theorem xm_14 {n c : Nat} {sy fi se l tk kd aa bb : Nat → Nat} (G : pt_G n c sy fi se l tk kd aa bb) (hW : wh_W tk c) (post : Int32 → SX → Prop)
    (h : ∀ bd vl, post (nI (pt_c (ev_q n c sy fi se l tk) 8000)) (nI n, nI c, pt_f sy, pt_f fi, pt_f se, pt_f l, pt_f tk, bd, vl)) :
    ∀ d s bd vl, s + d = 8000 → wX_matches_14 post (d + 1) (nI (pt_c (ev_q n c sy fi se l tk) s)) (nI s) (nI n) (nI c) (pt_f sy) (pt_f fi) (pt_f se) (pt_f l) (pt_f tk) bd vl := by
  intro d
  induction d with
  | zero =>
    intro s bd vl hs
    have e : s = 8000 := by omega
    subst e
    exact br_t (nI_le (a := 8000) (by omega) (by omega)) (h bd vl)
  | succ d ih =>
    intro s bd vl hs
    refine br_f (nI_ge (b := 8000) (by omega) (by omega)) (xv_value G hW bd vl (by omega) _ (fun vl' => ?_))
    have ih := ih (s + 1) (ev_D bd s) vl' (by omega)
    cases hv : ev_V n c sy fi se l tk s with
    | none =>
      rw [pt_cf (show ev_q n c sy fi se l tk s = false by unfold ev_q; rw [hv]; rfl)] at ih
      exact br_t rfl (nm_r (nI_1 s) ih)
    | some v =>
      rw [pt_ct (show ev_q n c sy fi se l tk s = true by unfold ev_q; rw [hv]; rfl)] at ih
      have := ev_Vb G.2.2.1.2.2.2.1 (show s < 8000 by omega) hv
      exact br_f (pt_m1 (by omega)) (nm_r (nI_1 _) (nm_r (nI_1 s) ih))
theorem xm_24 {n c : Nat} {sy fi se l tk kd aa bb : Nat → Nat} (G : pt_G n c sy fi se l tk kd aa bb) (hW : wh_W tk c) {a : Nat} (ha : a < n) (post : Int32 → SX → Prop)
    (h : ∀ bd vl, post (nI (pt_c (ev_qa n c sy fi se l tk (l a)) 8000)) (nI n, nI c, pt_f sy, pt_f fi, pt_f se, pt_f l, pt_f tk, bd, vl)) :
    ∀ d s bd vl, s + d = 8000 → wX_matchesAt_24 post (nI a) (d + 1) (nI (pt_c (ev_qa n c sy fi se l tk (l a)) s)) (nI s) (nI n) (nI c) (pt_f sy) (pt_f fi) (pt_f se) (pt_f l) (pt_f tk) bd vl := by
  have hn := G.1
  have bl := G.2.2.1.2.2.2.1
  intro d
  induction d with
  | zero =>
    intro s bd vl hs
    have e : s = 8000 := by omega
    subst e
    exact br_t (nI_le (a := 8000) (by omega) (by omega)) (h bd vl)
  | succ d ih =>
    intro s bd vl hs
    refine br_f (nI_ge (b := 8000) (by omega) (by omega)) (xv_value G hW bd vl (by omega) _ (fun vl' => ⟨vp_in_nI (by omega) (by omega), ?_⟩))
    have ih := ih (s + 1) (ev_D bd s) vl' (by omega)
    have bla := bl a
    by_cases e : ev_V n c sy fi se l tk s = some (l a)
    · rw [pt_ct (show ev_qa n c sy fi se l tk (l a) s = true from decide_eq_true e)] at ih
      exact br_t (by rw [e, pt_at l (by omega)]; rfl) (nm_r (nI_1 _) (nm_r (nI_1 s) ih))
    · rw [pt_cf (show ev_qa n c sy fi se l tk (l a) s = false from decide_eq_false e)] at ih
      refine br_f ?_ (nm_r (nI_1 s) ih)
      rw [pt_at l (by omega)]
      intro z
      refine e (pt_oI (y := some (l a)) (fun j hj => ?_) (fun j hj => by cases hj; omega) z)
      have := ev_Vb bl (show s < 8000 by omega) hj
      omega
theorem xm_33 {n c : Nat} {sy fi se l tk kd aa bb : Nat → Nat} (G : pt_G n c sy fi se l tk kd aa bb) (hW : wh_W tk c) (p : Int32) {v : Nat} (hv3 : v < 3) (post : Int32 → SX → Prop)
    (h1 : ∀ s, s < 8000 → ev_q n c sy fi se l tk s = true → nI (pt_c (ev_q n c sy fi se l tk) s) = p → ∀ bd vl, post (nI (ev_d s v)) (nI n, nI c, pt_f sy, pt_f fi, pt_f se, pt_f l, pt_f tk, bd, vl))
    (h0 : (∀ s, s < 8000 → ev_q n c sy fi se l tk s = true → ¬ nI (pt_c (ev_q n c sy fi se l tk) s) = p) → ∀ bd vl, post (-3) (nI n, nI c, pt_f sy, pt_f fi, pt_f se, pt_f l, pt_f tk, bd, vl)) :
    ∀ d s bd vl, s + d = 8000 → (∀ j, j < s → ev_q n c sy fi se l tk j = true → ¬ nI (pt_c (ev_q n c sy fi se l tk) j) = p) → wX_binding_33 post p (nI v) (d + 1) (nI (pt_c (ev_q n c sy fi se l tk) s)) (nI s) (nI n) (nI c) (pt_f sy) (pt_f fi) (pt_f se) (pt_f l) (pt_f tk) bd vl := by
  intro d
  induction d with
  | zero =>
    intro s bd vl hs hj
    have e : s = 8000 := by omega
    subst e
    exact br_t (nI_le (a := 8000) (by omega) (by omega)) (h0 hj bd vl)
  | succ d ih =>
    intro s bd vl hs hj
    refine br_f (nI_ge (b := 8000) (by omega) (by omega)) (xv_value G hW bd vl (by omega) _ (fun vl' => ?_))
    have ih := ih (s + 1) (ev_D bd s) vl' (by omega)
    cases hv : ev_V n c sy fi se l tk s with
    | none =>
      have hq : ev_q n c sy fi se l tk s = false := by unfold ev_q; rw [hv]; rfl
      rw [pt_cf hq] at ih
      refine br_t rfl (nm_r (nI_1 s) (ih ?_))
      intro j hj' hq'
      by_cases ej : j = s
      · subst ej; rw [hq] at hq'; exact absurd hq' (by decide)
      · exact hj j (by omega) hq'
    | some w =>
      have hq : ev_q n c sy fi se l tk s = true := by unfold ev_q; rw [hv]; rfl
      rw [pt_ct hq] at ih
      have := ev_Vb G.2.2.1.2.2.2.1 (show s < 8000 by omega) hv
      refine br_f (pt_m1 (by omega)) (br_c (fun e => ⟨vp_in_nI hv3 (by omega), ?_⟩) (fun e => nm_r (nI_1 _) (nm_r (nI_1 s) (ih ?_))))
      · rw [nI_clamp (by omega), ev_Dv hv3]
        exact h1 s (by omega) hq e _ _
      · intro j hj' hq'
        by_cases ej : j = s
        · subst ej; exact e
        · exact hj j (by omega) hq'
