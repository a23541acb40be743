theorem yl_42 (n tc w ct fd : Int32) (kd aa bb la tk bd sa : Nat → Int32) (post : SY → Prop)
    (h : ∀ kp', (∀ v, v < 3 → kp' v = bd v) → post (n, tc, w, ct, fd + 1, kd, aa, bb, la, tk, bd, kp', sa)) :
    ∀ d i kp, i + d = 3 → (∀ v, v < i → kp v = bd v) → wY_look_42 post n tc w ct fd (d + 1) (nI i) kd aa bb la tk bd kp sa := by
  intro d
  induction d with
  | zero =>
    intro i kp hi hj
    have e : i = 3 := by omega
    subst e
    exact br_t (nI_le (a := 3) (by omega) (by omega)) (nm_e (h kp hj))
  | succ d ih =>
    intro i kp hi hj
    have hin : vp_in (nI i) 3 := vp_in_nI (by omega) (by omega)
    refine br_f (nI_ge (b := 3) (by omega) (by omega)) ⟨hin, hin, nm_r (e' := upd kp i (bd i)) (by rw [nI_clamp (by omega)]) (nm_r (nI_1 i) (ih (i + 1) _ (by omega) ?_))⟩
    intro v hv
    by_cases e : v = i
    · subst e; exact pk_us
    · rw [pk_un e]; exact hj v (by omega)
theorem yl_29 (n tc w ct fd : Int32) (kd aa bb la tk bd kp sa : Nat → Int32) (post : SY → Prop)
    (h1 : fd = w → ∀ kp', (∀ v, v < 3 → kp' v = bd v) → post (n, tc, w, ct, fd + 1, kd, aa, bb, la, tk, bd, kp', sa))
    (h0 : ¬ fd = w → post (n, tc, w, ct, fd + 1, kd, aa, bb, la, tk, bd, kp, sa)) : wY_look_29 post n tc w ct fd kd aa bb la tk bd kp sa :=
  br_c (fun e => ⟨4, yl_42 n tc w ct fd kd aa bb la tk bd sa post (h1 e) 3 0 kp (by omega) (fun v hv => absurd hv (Nat.not_lt_zero _))⟩) (fun e => nm_e (h0 e))
def ys_I (n c : Nat) (sy fi se l tk : Nat → Nat) (w : Int32) (s : Nat) (kp : Nat → Int32) : Prop :=
  ∀ j, j < s → ev_q n c sy fi se l tk j = true → nI (pt_c (ev_q n c sy fi se l tk) j) = w → ∀ v, v < 3 → kp v = nI (ev_d j v)
def ys_Q (n c : Nat) (sy fi se l tk : Nat → Nat) (tg : Int32) (Q : Nat → Bool) : Prop :=
  ∀ s, s < 8000 → (ev_V n c sy fi se l tk s = none → Q s = false) ∧ (∀ v, ev_V n c sy fi se l tk s = some v → (Q s = true ↔ (tg < 0 ∨ nI v = tg)))
theorem ys_I1 {n c : Nat} {sy fi se l tk : Nat → Nat} {w : Int32} {s : Nat} {kp : Nat → Int32} (h : ys_I n c sy fi se l tk w s kp) (h1 : ev_q n c sy fi se l tk s = true → nI (pt_c (ev_q n c sy fi se l tk) s) = w → ∀ v, v < 3 → kp v = nI (ev_d s v)) : ys_I n c sy fi se l tk w (s + 1) kp := by
  intro j hj hq
  by_cases e : j = s
  · subst e; exact h1 hq
  · exact h j (by omega) hq
theorem yl_look {n c : Nat} {sy fi se l tk kd aa bb : Nat → Nat} (G : pt_G n c sy fi se l tk kd aa bb) (hW : wh_W tk c) {w tg : Int32} {Q : Nat → Bool} (hQ : ys_Q n c sy fi se l tk tg Q) {s : Nat} (hs : s < 8000) (hP : ev_P n c l tk s) (bd kp sa : Nat → Int32) (hI : ys_I n c sy fi se l tk w s kp) (post : SY → Prop)
    (h : ∀ kp' sa', ys_I n c sy fi se l tk w (s + 1) kp' → post (nI n, nI c, w, nI (pt_c Q (s + 1)), nI (pt_c (ev_q n c sy fi se l tk) (s + 1)), pt_f kd, pt_f aa, pt_f bb, pt_f l, pt_f tk, ev_D bd s, kp', sa')) :
    wpY_look post (nI n, nI c, w, nI (pt_c Q s), nI (pt_c (ev_q n c sy fi se l tk) s), pt_f kd, pt_f aa, pt_f bb, pt_f l, pt_f tk, ev_D bd s, kp, sa) tg := by
  refine yv_value G hW (dg := ev_d s) (fun v => Nat.lt_trans (ev_d20 hs v) (by omega)) (fun v hv => ev_Dv hv) w _ _ kp sa _ (fun sa' => ?_)
  have hQ := hQ s hs
  have eV := ev_Vt (sy := sy) (fi := fi) (se := se) hP
  rw [← eV]
  cases hv : ev_V n c sy fi se l tk s with
  | none =>
    have hq : ev_q n c sy fi se l tk s = false := by unfold ev_q; rw [hv]; rfl
    rw [pt_cf hq, pt_cf (hQ.1 hv)] at h
    exact br_f (by decide) (h kp sa' (ys_I1 hI (fun z => by rw [hq] at z; exact absurd z (by decide))))
  | some v =>
    have hq : ev_q n c sy fi se l tk s = true := by unfold ev_q; rw [hv]; rfl
    have hb := ev_Vb G.2.2.1.2.2.2.1 hs hv
    have hc1 := pt_c_le (ev_q n c sy fi se l tk) s
    rw [pt_ct hq] at h
    have go : ∀ ct : Int32, ct = nI (pt_c Q (s + 1)) → wY_look_29 post (nI n) (nI c) w ct (nI (pt_c (ev_q n c sy fi se l tk) s)) (pt_f kd) (pt_f aa) (pt_f bb) (pt_f l) (pt_f tk) (ev_D bd s) kp sa' := by
      intro ct hct
      subst hct
      refine yl_29 _ _ _ _ _ _ _ _ _ _ _ _ _ _ (fun e kp' hk => ?_) (fun e => ?_)
      · rw [nI_1]
        refine h kp' sa' ?_
        intro j hj hq' hw v' hv'
        by_cases ej : j = s
        · subst ej; rw [hk v' hv']; exact ev_Dv hv'
        · exfalso
          have l1 := pt_c_lt (show j < s by omega) hq'
          rw [← e, nI_eq (by omega) (by omega)] at hw
          omega
      · rw [nI_1]
        exact h kp sa' (ys_I1 hI (fun _ z => absurd z e))
    have yes : Q s = true → wY_look_19 post (nI n) (nI c) w (nI (pt_c Q s)) (nI (pt_c (ev_q n c sy fi se l tk) s)) (pt_f kd) (pt_f aa) (pt_f bb) (pt_f l) (pt_f tk) (ev_D bd s) kp sa' := by
      intro z
      exact nm_e (go _ (by rw [nI_1, pt_ct z]))
    refine br_t (nI_pos' (by omega)) (br_c (fun e => yes ((hQ.2 v hv).mpr (Or.inl e))) (fun e => br_c (fun e2 => yes ((hQ.2 v hv).mpr (Or.inr e2))) (fun e2 => go _ ?_)))
    rw [pt_cf]
    cases hz : Q s with
    | false => rfl
    | true => exact absurd ((hQ.2 v hv).mp hz) (fun z => z.elim e e2)
theorem ys_P {n c k m : Nat} {l tk : Nat → Nat} (hm : m < 20) (h0 : ev_T n c l tk 0 (k / 20)) (h1 : ev_T n c l tk 1 (k % 20)) (h2 : ev_T n c l tk 2 m) : ev_P n c l tk (20 * k + m) := by
  intro v hv
  rcases (show v = 0 ∨ v = 1 ∨ v = 2 from by omega) with e | e | e <;> subst e
  · show ev_T n c l tk 0 ((20 * k + m) / 400)
    rw [show (20 * k + m) / 400 = k / 20 from by omega]; exact h0
  · show ev_T n c l tk 1 ((20 * k + m) / 20 % 20)
    rw [show (20 * k + m) / 20 % 20 = k % 20 from by omega]; exact h1
  · show ev_T n c l tk 2 ((20 * k + m) % 20)
    rw [show (20 * k + m) % 20 = m from by omega]; exact h2
theorem ys_D {bd : Nat → Int32} {k m : Nat} (hm : m < 20) : upd (upd (upd bd 0 (nI (k / 20))) 1 (nI (k % 20))) 2 (nI m) = ev_D bd (20 * k + m) := by
  unfold ev_D
  rw [show (20 * k + m) / 400 = k / 20 from by omega, show (20 * k + m) / 20 % 20 = k % 20 from by omega, show (20 * k + m) % 20 = m from by omega]
theorem ys_27 {n c : Nat} {sy fi se l tk kd aa bb : Nat → Nat} (G : pt_G n c sy fi se l tk kd aa bb) (hW : wh_W tk c) {w tg : Int32} {Q : Nat → Bool} (hQ : ys_Q n c sy fi se l tk tg Q) {k : Nat} (hk : k < 400) (post : SY → Prop)
    (J17 : Int32 → Int32 → Int32 → Int32 → Int32 → Int32 → (Nat → Int32) → (Nat → Int32) → (Nat → Int32) → (Nat → Int32) → (Nat → Int32) → (Nat → Int32) → (Nat → Int32) → (Nat → Int32) → Prop)
    (hJ : ∀ bd kp sa, ys_I n c sy fi se l tk w (20 * (k + 1)) kp → J17 (nI (k + 1)) (nI n) (nI c) w (nI (pt_c Q (20 * (k + 1)))) (nI (pt_c (ev_q n c sy fi se l tk) (20 * (k + 1)))) (pt_f kd) (pt_f aa) (pt_f bb) (pt_f l) (pt_f tk) bd kp sa) :
    ∀ d m bd kp sa, m + d = 20 → ys_I n c sy fi se l tk w (20 * k + m) kp →
      wY_search_27 post J17 tg (nI k) (d + 1) (nI m) (nI n) (nI c) w (nI (pt_c Q (20 * k + m))) (nI (pt_c (ev_q n c sy fi se l tk) (20 * k + m))) (pt_f kd) (pt_f aa) (pt_f bb) (pt_f l) (pt_f tk) bd kp sa := by
  have hn := G.1
  have hc := G.2.1
  have bl := G.2.2.1.2.2.2.1
  have bt := G.2.2.1.2.2.2.2.1
  intro d
  induction d with
  | zero =>
    intro m bd kp sa hm hI
    have e : m = 20 := by omega
    subst e
    exact br_t (nI_le (a := 20) (by omega) (by omega)) (nm_r (nI_1 k) (hJ bd kp sa hI))
  | succ d ih =>
    intro m bd kp sa hm hI
    have e1 : nI k / 20 = nI (k / 20) := pk_div (d := 20) (by omega) (by omega) (by omega)
    have e2 : nI k - nI k / 20 * 20 = nI (k % 20) := pk_rem (d := 20) (by omega) (by omega) (by omega)
    have hs : 20 * k + m < 8000 := by omega
    have skip : ¬ ev_P n c l tk (20 * k + m) → ∀ y, y = nI m + 1 → wY_search_27 post J17 tg (nI k) (d + 1) y (nI n) (nI c) w (nI (pt_c Q (20 * k + m))) (nI (pt_c (ev_q n c sy fi se l tk) (20 * k + m))) (pt_f kd) (pt_f aa) (pt_f bb) (pt_f l) (pt_f tk) bd kp sa := by
      intro hP
      have hv := ev_Vf (sy := sy) (fi := fi) (se := se) hP
      have hq : ev_q n c sy fi se l tk (20 * k + m) = false := by unfold ev_q; rw [hv]; rfl
      have ih := ih (m + 1) bd kp sa (by omega) (ys_I1 (s := 20 * k + m) hI (fun z => by rw [hq] at z; exact absurd z (by decide)))
      rw [← Nat.add_assoc, pt_cf hq, pt_cf ((hQ _ hs).1 hv)] at ih
      exact nm_r (nI_1 m) ih
    refine br_f (nI_ge (b := 20) (by omega) (by omega)) ⟨by decide, ?_⟩
    rw [e2, e1]
    refine yv_tried hn hc bl bt _ _ _ _ _ _ _ _ _ (v := 0) (by omega) (by omega) _ (fun t0 => br_f (by decide) ⟨by decide, ?_⟩) (fun t0 => br_t rfl (skip ?_))
    · refine yv_tried hn hc bl bt _ _ _ _ _ _ _ _ _ (v := 1) (by omega) (by omega) _ (fun t1 => br_f (by decide) ?_) (fun t1 => br_t rfl (skip ?_))
      · refine yv_tried hn hc bl bt _ _ _ _ _ _ _ _ _ (v := 2) (by omega) (by omega) _ (fun t2 => br_f (by decide) ⟨by decide, nm_e ⟨by decide, nm_e (nm_r (ys_D (by omega)) ?_)⟩⟩) (fun t2 => br_t rfl (skip ?_))
        · exact yl_look G hW hQ hs (ys_P (by omega) t0 t1 t2) bd kp sa hI _ (fun kp' sa' hI' => nm_r (nI_1 m) (ih (m + 1) _ kp' sa' (by omega) hI'))
        · intro z
          have := z 2 (by omega)
          rw [show ev_d (20 * k + m) 2 = m from (show (20 * k + m) % 20 = m from by omega)] at this
          exact t2 this
      · intro z
        have := z 1 (by omega)
        rw [show ev_d (20 * k + m) 1 = k % 20 from (show (20 * k + m) / 20 % 20 = k % 20 from by omega)] at this
        exact t1 this
    · intro z
      have := z 0 (by omega)
      rw [show ev_d (20 * k + m) 0 = k / 20 from (show (20 * k + m) / 400 = k / 20 from by omega)] at this
      exact t0 this
theorem ys_17 {n c : Nat} {sy fi se l tk kd aa bb : Nat → Nat} (G : pt_G n c sy fi se l tk kd aa bb) (hW : wh_W tk c) {w tg : Int32} {Q : Nat → Bool} (hQ : ys_Q n c sy fi se l tk tg Q) (post : SY → Prop)
    (h : ∀ bd kp sa, ys_I n c sy fi se l tk w 8000 kp → post (nI n, nI c, w, nI (pt_c Q 8000), nI (pt_c (ev_q n c sy fi se l tk) 8000), pt_f kd, pt_f aa, pt_f bb, pt_f l, pt_f tk, bd, kp, sa)) :
    ∀ d k bd kp sa, k + d = 400 → ys_I n c sy fi se l tk w (20 * k) kp →
      wY_search_17 post tg (d + 1) (nI k) (nI n) (nI c) w (nI (pt_c Q (20 * k))) (nI (pt_c (ev_q n c sy fi se l tk) (20 * k))) (pt_f kd) (pt_f aa) (pt_f bb) (pt_f l) (pt_f tk) bd kp sa := by
  intro d
  induction d with
  | zero =>
    intro k bd kp sa hk hI
    have e : k = 400 := by omega
    subst e
    exact br_t (nI_le (a := 400) (by omega) (by omega)) (h bd kp sa hI)
  | succ d ih =>
    intro k bd kp sa hk hI
    exact br_f (nI_ge (b := 400) (by omega) (by omega)) ⟨21, ys_27 G hW hQ (by omega) post _ (fun bd kp sa hI => ih (k + 1) bd kp sa (by omega) hI) 20 0 bd kp sa (by omega) hI⟩
theorem ys_search {n c : Nat} {sy fi se l tk kd aa bb : Nat → Nat} (G : pt_G n c sy fi se l tk kd aa bb) (hW : wh_W tk c) (w tg : Int32) (Q : Nat → Bool) (hQ : ys_Q n c sy fi se l tk tg Q) (w0 c0 f0 : Int32) (bd kp sa : Nat → Int32) (post : SY → Prop)
    (h : ∀ bd kp sa, ys_I n c sy fi se l tk w 8000 kp → post (nI n, nI c, w, nI (pt_c Q 8000), nI (pt_c (ev_q n c sy fi se l tk) 8000), pt_f kd, pt_f aa, pt_f bb, pt_f l, pt_f tk, bd, kp, sa)) :
    wpY_search post (nI n, nI c, w0, c0, f0, pt_f kd, pt_f aa, pt_f bb, pt_f l, pt_f tk, bd, kp, sa) tg w :=
  ⟨401, ys_17 G hW hQ post h 400 0 bd kp sa (by omega) (fun j hj => absurd hj (Nat.not_lt_zero _))⟩
