def wh_a (t : Nat) : Nat := if t = 21 then 2 else if t = 20 then 1 else 0
theorem wh_a0 {t : Nat} (h : t < 20) : wh_a t = 0 := by
  unfold wh_a
  rw [if_neg (by omega), if_neg (by omega)]
theorem wh_a2 (t : Nat) : wh_a t ≤ 2 := by
  unfold wh_a
  split
  · omega
  · split <;> omega
def wh_S (tk : Nat → Nat) : Nat → Int
  | 0 => 0
  | i + 1 => wh_S tk i + (wh_a (tk i) : Int) - 1
def wh_W (tk : Nat → Nat) (c : Nat) : Prop := (∀ i, i < c → 0 ≤ wh_S tk i) ∧ wh_S tk c = -1
def wh_H (tk : Nat → Nat) (c v : Nat) : Prop := ∃ j, j < c ∧ tk j = v
def wh_T (tk : Nat → Nat) (c : Nat) : Prop := ∀ j, j < c → tk j < 3 ∨ 10 ≤ tk j ∧ tk j < 16 ∨ tk j = 20 ∨ tk j = 21
theorem xw_arity {t : Nat} (ht : t < 100) (u : SX) (post : Int32 → Prop) (h : post (nI (wh_a t))) : wpX_arity post u (nI t) := by
  obtain ⟨_, _, _, _, _, _, _, _, _⟩ := u
  unfold wh_a at h
  refine pk_eq t 21 (fun e => ?_) (fun e => pk_eq t 20 (fun e2 => ?_) (fun e2 => ?_))
  · rw [if_pos e] at h; exact h
  · rw [if_neg e, if_pos e2] at h; exact h
  · rw [if_neg e, if_neg e2] at h; exact h
theorem wh_add {u a : Nat} (h : 0 < u) : nI u + (nI a - 1) = nI (u + a - 1) := by
  have e : nI u + (nI a - 1) = nI u + nI a - 1 := by grind
  rw [e, nI_add, show u + a = (u + a - 1) + 1 from by omega, nI_pred, Nat.add_sub_cancel]
theorem xw_whole4 {c : Nat} (hc : c ≤ 7) {tk : Nat → Nat} (bt : pt_B tk) (nc : Int32) (sy fi se la bd vl : Nat → Int32) (post : Int32 → Prop) (h1 : wh_W tk c → post 1) (h0 : ¬ wh_W tk c → post 0) :
    ∀ d i (u : Nat), i + d = c → (u : Int) = 1 + wh_S tk i → (∀ j, j < i → 0 ≤ wh_S tk j) → u ≤ i + 1 → wX_patternIsWhole_4 post nc (nI c) sy fi se la (pt_f tk) bd vl (d + 1) (nI u) (nI i) := by
  intro d
  induction d with
  | zero =>
    intro i u hi hu hj hb
    have e : i = c := by omega
    subst e
    exact br_t (nI_le (by omega) (by omega)) (pk_eq u 0 (fun e => h1 ⟨hj, by omega⟩) (fun e => h0 fun z => by have := z.2; omega))
  | succ d ih =>
    intro i u hi hu hj hb
    have h31 : i < 2 ^ 31 := by omega
    refine br_f (nI_ge (by omega) (by omega)) (pk_eq u 0 (fun e => h0 fun z => by have := z.1 i (by omega); omega) (fun e => ⟨vp_in_nI (by omega) (by omega), ?_⟩))
    rw [pt_at tk h31]
    have a2 := wh_a2 (tk i)
    refine xw_arity (bt i) _ _ (nm_r (wh_add (by omega)) (nm_r (nI_1 i) (ih (i + 1) _ (by omega) ?_ ?_ ?_)))
    · show _ = 1 + (wh_S tk i + (wh_a (tk i) : Int) - 1)
      omega
    · intro j hj'
      by_cases ej : j = i
      · subst ej; omega
      · exact hj j (by omega)
    · omega
theorem xw_whole {c : Nat} (hc : c ≤ 7) {tk : Nat → Nat} (bt : pt_B tk) (nc : Int32) (sy fi se la bd vl : Nat → Int32) (post : Int32 → Prop) (h1 : wh_W tk c → post 1) (h0 : ¬ wh_W tk c → post 0) :
    wpX_patternIsWhole post (nc, nI c, sy, fi, se, la, pt_f tk, bd, vl) :=
  ⟨c + 1, xw_whole4 hc bt nc sy fi se la bd vl post h1 h0 c 0 1 (by omega) rfl (fun j hj => absurd hj (Nat.not_lt_zero _)) (by omega)⟩
theorem yw_whole9 {c : Nat} (hc : c ≤ 7) {tk : Nat → Nat} (bt : pt_B tk) (hT : wh_T tk c) (nc w ct fd : Int32) (kd aa bb la bd kp st : Nat → Int32) (post : Int32 → Prop) (h1 : wh_W tk c → post 1) (h0 : ¬ wh_W tk c → post 0) :
    ∀ i (h : Nat), i ≤ c → (h : Int) = wh_S tk i - wh_S tk c → (∀ j, i ≤ j → j < c → 1 ≤ wh_S tk j - wh_S tk c) → h + i ≤ c → wY_whole_9 post nc (nI c) w ct fd kd aa bb la (pt_f tk) bd kp st (i + 1) (nI h) (nI i + (-1)) := by
  intro i
  induction i with
  | zero =>
    intro h hi hh hj hb
    have hh : (h : Int) = 0 - wh_S tk c := hh
    refine br_t (by decide +kernel) (pk_eq h 1 (fun e => h1 ⟨fun j hj' => ?_, by omega⟩) (fun e => h0 fun z => by have := z.2; omega))
    have := hj j (by omega) hj'
    omega
  | succ i ih =>
    intro h hi hh hj hb
    have h31 : i < 2 ^ 31 := by omega
    have hin : vp_in (nI i) 7 := vp_in_nI (by omega) (by omega)
    have hs : wh_S tk (i + 1) = wh_S tk i + (wh_a (tk i) : Int) - 1 := rfl
    have hbt := bt i
    have hat : pt_f tk (nI i).toNatClampNeg = nI (tk i) := pt_at tk h31
    have hno : h < wh_a (tk i) → post 0 := fun hl => h0 fun z => by
      have z1 := z.1 i (by omega)
      have z2 := z.2
      omega
    have hnext : ∀ h' : Nat, wh_a (tk i) ≤ h → (h' : Int) = h + 1 - wh_a (tk i) → wY_whole_9 post nc (nI c) w ct fd kd aa bb la (pt_f tk) bd kp st (i + 1) (nI h') (nI i + (-1)) := by
      intro h' hl hh'
      refine ih h' (by omega) (by omega) ?_ (by omega)
      intro j hj1 hj2
      by_cases ej : j = i
      · subst ej; omega
      · exact hj j (by omega) hj2
    rw [pk_m1 i]
    rcases (show tk i = 20 ∨ tk i = 21 ∨ tk i < 20 from by have := hT i (by omega); omega) with e | e | e
    · have ea : wh_a (tk i) = 1 := by rw [e]; rfl
      refine br_f (nI_pos h31) ⟨hin, pk_eq (tk i) 20 (fun _ => pk_lt h 1 (fun hl => hno (by omega)) (fun hl => ⟨hin, pk_eq (tk i) 21 (fun z => by omega) (fun _ => ⟨hin, pk_le 20 (tk i) (fun _ => ⟨hin, pk_eq (tk i) 21 (fun z => by omega) (fun _ => nm_e (hnext h (by omega) (by omega))) hat rfl⟩) (fun z => by omega) rfl hat⟩) hat rfl⟩)) (fun z => absurd e z) hat rfl⟩
    · have ea : wh_a (tk i) = 2 := by rw [e]; rfl
      refine br_f (nI_pos h31) ⟨hin, pk_eq (tk i) 20 (fun z => by omega) (fun _ => ⟨hin, pk_eq (tk i) 21 (fun _ => pk_le 2 h (fun hl => ⟨hin, pk_le 20 (tk i) (fun _ => ⟨hin, pk_eq (tk i) 21 (fun _ => nm_r (e' := nI (h - 1)) ?_ (nm_e (hnext (h - 1) (by omega) (by omega)))) (fun z => absurd e z) hat rfl⟩) (fun z => by omega) rfl hat⟩) (fun hl => hno (by omega))) (fun z => absurd e z) hat rfl⟩) hat rfl⟩
      obtain ⟨m, rfl⟩ : ∃ m, h = m + 1 := ⟨h - 1, by omega⟩
      exact pk_m1 m
    · have ea : wh_a (tk i) = 0 := wh_a0 e
      exact br_f (nI_pos h31) ⟨hin, pk_eq (tk i) 20 (fun z => by omega) (fun _ => ⟨hin, pk_eq (tk i) 21 (fun z => by omega) (fun _ => ⟨hin, pk_le 20 (tk i) (fun z => by omega) (fun _ => nm_r (nI_1 h) ⟨hin, pk_eq (tk i) 21 (fun z => by omega) (fun _ => nm_e (hnext (h + 1) (by omega) (by omega))) hat rfl⟩) rfl hat⟩) hat rfl⟩) hat rfl⟩
theorem wh_m1 (x : Int32) : x - 1 = x + (-1) := by grind
theorem yw_whole {c : Nat} (hc : c ≤ 7) {tk : Nat → Nat} (bt : pt_B tk) (hT : wh_T tk c) (nc w ct fd : Int32) (kd aa bb la bd kp st : Nat → Int32) (post : Int32 → Prop) (h1 : wh_W tk c → post 1) (h0 : ¬ wh_W tk c → post 0) :
    wpY_whole post (nc, nI c, w, ct, fd, kd, aa, bb, la, pt_f tk, bd, kp, st) :=
  nm_r (wh_m1 _) ⟨c + 1, yw_whole9 hc bt hT nc w ct fd kd aa bb la bd kp st post h1 h0 c 0 (by omega) (by omega) (fun j hj hj' => by omega) (by omega)⟩
theorem xw_has2 {c : Nat} (hc : c ≤ 7) {tk : Nat → Nat} (bt : pt_B tk) (nc : Int32) (sy fi se la bd vl : Nat → Int32) {v : Nat} (hv : v < 100) (post : Int32 → Prop) (h1 : wh_H tk c v → post 1) (h0 : ¬ wh_H tk c v → post 0) :
    ∀ d i, i + d = c → (∀ j, j < i → tk j ≠ v) → wX_patternHas_2 post (nI v) nc (nI c) sy fi se la (pt_f tk) bd vl (d + 1) (nI i) := by
  intro d
  induction d with
  | zero => intro i hi hj; exact br_t (nI_le (by omega) (by omega)) (h0 fun ⟨j, z1, z2⟩ => hj j (by omega) z2)
  | succ d ih =>
    intro i hi hj
    have b := bt i
    refine br_f (nI_ge (by omega) (by omega)) ⟨vp_in_nI (by omega) (by omega), pk_eq (tk i) v (fun e => h1 ⟨i, by omega, e⟩) (fun e => nm_r (nI_1 i) (ih (i + 1) (by omega) ?_)) (pt_at tk (by omega)) rfl⟩
    intro j hj'
    by_cases ej : j = i
    · subst ej; exact e
    · exact hj j (by omega)
theorem xw_has {c : Nat} (hc : c ≤ 7) {tk : Nat → Nat} (bt : pt_B tk) (nc : Int32) (sy fi se la bd vl : Nat → Int32) {v : Nat} (hv : v < 100) (post : Int32 → Prop) (h1 : wh_H tk c v → post 1) (h0 : ¬ wh_H tk c v → post 0) :
    wpX_patternHas post (nc, nI c, sy, fi, se, la, pt_f tk, bd, vl) (nI v) :=
  ⟨c + 1, xw_has2 hc bt nc sy fi se la bd vl hv post h1 h0 c 0 (by omega) (fun j hj => absurd hj (Nat.not_lt_zero _))⟩
theorem yw_has2 {c : Nat} (hc : c ≤ 7) {tk : Nat → Nat} (bt : pt_B tk) (nc w ct fd : Int32) (kd aa bb la bd kp st : Nat → Int32) {v : Nat} (hv : v < 100) (post : Int32 → Prop) (h1 : wh_H tk c v → post 1) (h0 : ¬ wh_H tk c v → post 0) :
    ∀ d i, i + d = c → (∀ j, j < i → tk j ≠ v) → wY_hasVariable_2 post (nI v) nc (nI c) w ct fd kd aa bb la (pt_f tk) bd kp st (d + 1) (nI i) := by
  intro d
  induction d with
  | zero => intro i hi hj; exact br_t (nI_le (by omega) (by omega)) (h0 fun ⟨j, z1, z2⟩ => hj j (by omega) z2)
  | succ d ih =>
    intro i hi hj
    have b := bt i
    refine br_f (nI_ge (by omega) (by omega)) ⟨vp_in_nI (by omega) (by omega), pk_eq (tk i) v (fun e => h1 ⟨i, by omega, e⟩) (fun e => nm_r (nI_1 i) (ih (i + 1) (by omega) ?_)) (pt_at tk (by omega)) rfl⟩
    intro j hj'
    by_cases ej : j = i
    · subst ej; exact e
    · exact hj j (by omega)
theorem yw_has {c : Nat} (hc : c ≤ 7) {tk : Nat → Nat} (bt : pt_B tk) (nc w ct fd : Int32) (kd aa bb la bd kp st : Nat → Int32) {v : Nat} (hv : v < 100) (post : Int32 → Prop) (h1 : wh_H tk c v → post 1) (h0 : ¬ wh_H tk c v → post 0) :
    wpY_hasVariable post (nc, nI c, w, ct, fd, kd, aa, bb, la, pt_f tk, bd, kp, st) (nI v) :=
  ⟨c + 1, yw_has2 hc bt nc w ct fd kd aa bb la bd kp st hv post h1 h0 c 0 (by omega) (fun j hj => absurd hj (Nat.not_lt_zero _))⟩
