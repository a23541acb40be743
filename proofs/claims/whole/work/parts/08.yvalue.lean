def ov_p (kd aa bb l : Nat → Nat) (k x y : Nat) : Nat → Bool := fun j => decide (kd j = k ∧ (k = 0 ∧ aa j = x ∨ k ≠ 0 ∧ l (aa j) = x ∧ (k = 1 ∨ l (bb j) = y)))
theorem ov_0 {n : Nat} {sy fi se l kd aa bb : Nat → Nat} (hE : cl_E n sy fi se kd aa bb) (hV : cl_V n l) {t : Nat} (h1 : 10 ≤ t) (h2 : t < 16) : (pt_s (ov_p kd aa bb l 0 (t - 10) 0) n 0).map l = ev_f n sy fi se l t 0 0 := by
  refine congrArg (Option.map l) (pt_s_cg n 0 fun j _ hj => decide_eq_decide.mpr ?_)
  have l0 := cl_0 hV (by omega)
  rcases hE.1 j (by omega) with ⟨a, b, c, d, e, f⟩ | ⟨a, b, c, d, e, f⟩ | ⟨a, b, c, d, e, f⟩
  · rw [d, e]
    exact ⟨fun z => ⟨by have := z.2; omega, l0, l0⟩, fun z => ⟨a, Or.inl ⟨rfl, by have := z.1; omega⟩⟩⟩
  · exact ⟨fun z => absurd z.1 (by omega), fun z => absurd z.1 (by omega)⟩
  · exact ⟨fun z => absurd z.1 (by omega), fun z => absurd z.1 (by omega)⟩
theorem ov_1 {n : Nat} {sy fi se l kd aa bb : Nat → Nat} (hE : cl_E n sy fi se kd aa bb) (hV : cl_V n l) (x : Nat) : (pt_s (ov_p kd aa bb l 1 x 0) n 0).map l = ev_f n sy fi se l 20 x 0 := by
  refine congrArg (Option.map l) (pt_s_cg n 0 fun j _ hj => decide_eq_decide.mpr ?_)
  have l0 := cl_0 hV (by omega)
  rcases hE.1 j (by omega) with ⟨a, b, c, d, e, f⟩ | ⟨a, b, c, d, e, f⟩ | ⟨a, b, c, d, e, f⟩
  · exact ⟨fun z => absurd z.1 (by omega), fun z => absurd z.1 (by omega)⟩
  · rw [c, e]
    exact ⟨fun z => ⟨b, by have := z.2; omega, l0⟩, fun z => ⟨a, Or.inr ⟨by omega, z.2.1, Or.inl rfl⟩⟩⟩
  · exact ⟨fun z => absurd z.1 (by omega), fun z => absurd z.1 (by omega)⟩
theorem ov_2 {n : Nat} {sy fi se l kd aa bb : Nat → Nat} (hE : cl_E n sy fi se kd aa bb) (x y : Nat) : (pt_s (ov_p kd aa bb l 2 x y) n 0).map l = ev_f n sy fi se l 21 x y := by
  refine congrArg (Option.map l) (pt_s_cg n 0 fun j _ hj => decide_eq_decide.mpr ?_)
  rcases hE.1 j (by omega) with ⟨a, b, c, d, e, f⟩ | ⟨a, b, c, d, e, f⟩ | ⟨a, b, c, d, e, f⟩
  · exact ⟨fun z => absurd z.1 (by omega), fun z => absurd z.1 (by omega)⟩
  · exact ⟨fun z => absurd z.1 (by omega), fun z => absurd z.1 (by omega)⟩
  · rw [c, e]
    exact ⟨fun z => ⟨b, by have := z.2; omega, by have := z.2; omega⟩, fun z => ⟨a, Or.inr ⟨by omega, z.2.1, Or.inr z.2.2⟩⟩⟩
theorem yv_over3 {n : Nat} (hn : n ≤ 20) {kd aa bb l : Nat → Nat} (bk : pt_B kd) (bl : pt_B l) (hd : ∀ i, i < n → aa i < 20 ∧ bb i < 20 ∧ kd i < 3) (tc w ct fd : Int32) (tk bd kp st : Nat → Int32) {k x y : Nat} (hk : k < 100) (hx : x < 100) (hy : y < 100) (post : Int32 → Prop) :
    ∀ d i, i + d = n → post (pt_o ((pt_s (ov_p kd aa bb l k x y) d i).map l)) → wY_over_3 post (nI k) (nI x) (nI y) (nI n) tc w ct fd (pt_f kd) (pt_f aa) (pt_f bb) (pt_f l) tk bd kp st (d + 1) (nI i) := by
  intro d
  induction d with
  | zero => intro i hi h; exact br_t (nI_le (by omega) (by omega)) h
  | succ d ih =>
    intro i hi h
    have h1 : i < 2 ^ 31 := by omega
    have di := hd i (by omega)
    have b2 := bl (aa i)
    have b3 := bl (bb i)
    have hin : vp_in (nI i) 20 := vp_in_nI (by omega) (by omega)
    have j1 : vp_in (pt_f aa (nI i).toNatClampNeg) 20 := by rw [pt_at aa h1]; exact vp_in_nI (by omega) (by omega)
    have j2 : vp_in (pt_f bb (nI i).toNatClampNeg) 20 := by rw [pt_at bb h1]; exact vp_in_nI (by omega) (by omega)
    have hno : ¬ (kd i = k ∧ (k = 0 ∧ aa i = x ∨ k ≠ 0 ∧ l (aa i) = x ∧ (k = 1 ∨ l (bb i) = y))) → wY_over_82 post (wY_over_3 post (nI k) (nI x) (nI y) (nI n) tc w ct fd (pt_f kd) (pt_f aa) (pt_f bb) (pt_f l) tk bd kp st (d + 1)) (nI k) (nI x) (nI y) (nI i) (nI n) tc w ct fd (pt_f kd) (pt_f aa) (pt_f bb) (pt_f l) tk bd kp st := by
      intro hp
      rw [pt_sf (show ov_p kd aa bb l k x y i = false from decide_eq_false hp)] at h
      exact br_t rfl (nm_r (nI_1 i) (ih (i + 1) (by omega) h))
    have hyes : (kd i = k ∧ (k = 0 ∧ aa i = x ∨ k ≠ 0 ∧ l (aa i) = x ∧ (k = 1 ∨ l (bb i) = y))) → wY_over_78 post (wY_over_3 post (nI k) (nI x) (nI y) (nI n) tc w ct fd (pt_f kd) (pt_f aa) (pt_f bb) (pt_f l) tk bd kp st (d + 1)) (nI k) (nI x) (nI y) (nI i) (nI n) tc w ct fd (pt_f kd) (pt_f aa) (pt_f bb) (pt_f l) tk bd kp st := by
      intro hp
      rw [pt_st (show ov_p kd aa bb l k x y i = true from decide_eq_true hp)] at h
      exact br_f (by decide) ⟨hin, by rw [pt_at l h1]; exact h⟩
    exact br_f (nI_ge (by omega) (by omega)) ⟨hin, pk_eq (kd i) k (fun e1 => pk_eq k 0 (fun e2 => ⟨hin, pk_eq (aa i) x (fun e3 => hyes ⟨e1, Or.inl ⟨e2, e3⟩⟩) (fun e3 => hno fun z => z.2.elim (fun z => e3 z.2) (fun z => z.1 e2)) (pt_at aa h1) rfl⟩) (fun e2 => ⟨hin, j1, pk_eq (l (aa i)) x (fun e3 => pk_eq k 1 (fun e4 => hyes ⟨e1, Or.inr ⟨e2, e3, Or.inl e4⟩⟩) (fun e4 => ⟨hin, j2, pk_eq (l (bb i)) y (fun e5 => hyes ⟨e1, Or.inr ⟨e2, e3, Or.inr e5⟩⟩) (fun e5 => hno fun z => z.2.elim (fun z => e2 z.1) (fun z => z.2.2.elim e4 e5)) (pt_at2 l bb h1 (by omega)) rfl⟩)) (fun e3 => hno fun z => z.2.elim (fun z => e2 z.1) (fun z => e3 z.2.1)) (pt_at2 l aa h1 (by omega)) rfl⟩)) (fun e1 => hno fun z => e1 z.1) (pt_at kd h1) rfl⟩
theorem yv_over {n : Nat} (hn : n ≤ 20) {kd aa bb l : Nat → Nat} (bk : pt_B kd) (bl : pt_B l) (hd : ∀ i, i < n → aa i < 20 ∧ bb i < 20 ∧ kd i < 3) (tc w ct fd : Int32) (tk bd kp st : Nat → Int32) (k : Nat) {x : Nat} (y : Nat) (hk : k < 100) (hx : x < 100) (hy : y < 100) (z : Option Nat) (hz : (pt_s (ov_p kd aa bb l k x y) n 0).map l = z) (post : Int32 → Prop) (h : post (pt_o z)) :
    wpY_over post (nI n, tc, w, ct, fd, pt_f kd, pt_f aa, pt_f bb, pt_f l, tk, bd, kp, st) (nI k) (nI x) (nI y) := by
  refine ⟨n + 1, yv_over3 hn bk bl hd tc w ct fd tk bd kp st hk hx hy post n 0 (by omega) ?_⟩
  rw [hz]
  exact h
theorem yv_9 {n c : Nat} {sy fi se l tk kd aa bb dg : Nat → Nat} (G : pt_G n c sy fi se l tk kd aa bb) (hW : wh_W tk c) (hdg : ∀ v, dg v < 100) {bd : Nat → Int32} (hbd : ∀ v, v < 3 → bd v = nI (dg v)) (w ct fd : Int32) (kp : Nat → Int32) (post : Int32 → SY → Prop) :
    ∀ i (st : List (Option Nat)) (sa : Nat → Int32), i ≤ c → (st.length : Int) = wh_S tk i - wh_S tk c → st.length + i ≤ c → ev_k sa st → ev_b st →
      (∀ sa', post (pt_o (ev_h (ev_r (ev_f n sy fi se l) dg tk i st))) (nI n, nI c, w, ct, fd, pt_f kd, pt_f aa, pt_f bb, pt_f l, pt_f tk, bd, kp, sa')) →
      wY_value_9 post (nI n) (nI c) w ct fd (i + 1) (nI st.length) (nI i + (-1)) (pt_f kd) (pt_f aa) (pt_f bb) (pt_f l) (pt_f tk) bd kp sa := by
  obtain ⟨hn, hc, ⟨bs, bf, be, bl, bt, bk, ba, bbb⟩, hE, hV, hK, hT⟩ := G
  have hd := cl_Ed hn hE
  intro i
  induction i with
  | zero =>
    intro st sa _ hl _ hk _ h
    have hl : (st.length : Int) = 0 - wh_S tk c := hl
    have hw2 := hW.2
    refine br_t (by decide +kernel) ?_
    cases st with
    | nil => simp only [List.length_nil] at hl; omega
    | cons x r =>
      cases r with
      | nil =>
        have h := h sa
        refine br_f (show ¬ nI 1 ≤ 0 from by decide +kernel) ?_
        show post (sa 0) _
        rw [show sa 0 = pt_o x from hk.1]
        exact h
      | cons y r => simp only [List.length_cons] at hl; omega
  | succ i ih =>
    intro st sa hi hl hlc hk hb h
    have h31 : i < 2 ^ 31 := by omega
    have hat : pt_f tk (nI i).toNatClampNeg = nI (tk i) := pt_at tk h31
    have hwa := ev_wa hW (show i < c by omega) hl
    have hwl := ev_wl (cf := ev_f n sy fi se l) (dg := dg) hT hW (show i < c by omega) hl
    have hlt := ev_lt (cf := ev_f n sy fi se l) (dg := dg) hT (show i < c by omega) hwa
    have hbt := bt i
    have fin : ∀ (z : Option Nat) (r : List (Option Nat)), ev_t (ev_f n sy fi se l) dg (tk i) st = z :: r → (∀ v, z = some v → v < 100) → ev_k sa r → ev_b r → 
        wY_value_9 post (nI n) (nI c) w ct fd (i + 1) (nI (r.length + 1)) (nI i + (-1)) (pt_f kd) (pt_f aa) (pt_f bb) (pt_f l) (pt_f tk) bd kp (upd sa r.length (pt_o z)) := by
      intro z r ht hz hkr hbr
      have h : ∀ sa', post (pt_o (ev_h (ev_r (ev_f n sy fi se l) dg tk i (ev_t (ev_f n sy fi se l) dg (tk i) st)))) (nI n, nI c, w, ct, fd, pt_f kd, pt_f aa, pt_f bb, pt_f l, pt_f tk, bd, kp, sa') := h
      rw [ht] at h hwl hlt
      have hlt' : (r.length + 1) + wh_a (tk i) = st.length + 1 := hlt
      refine ih (z :: r) _ (by omega) hwl ?_ (ev_kp hkr) (ev_bc hz hbr) h
      show r.length + 1 + i ≤ c
      omega
    rw [pk_m1 i]
    refine br_f (nI_pos h31) ⟨vp_in_nI (by omega) (by omega), nm_r hat ?_⟩
    rcases (show tk i < 20 ∨ tk i = 20 ∨ tk i = 21 from by have := hT i (by omega); omega) with e | e | e
    · have p36 : ∀ z0, wY_value_36 post (wY_value_9 post (nI n) (nI c) w ct fd (i + 1)) (nI st.length) (nI i) (nI (tk i)) z0 (nI n) (nI c) w ct fd (pt_f kd) (pt_f aa) (pt_f bb) (pt_f l) (pt_f tk) bd kp sa := by
        intro z0
        have hs8 : vp_in (nI st.length) 8 := vp_in_nI (by omega) (by omega)
        have hcl : (nI st.length).toNatClampNeg = st.length := nI_clamp (by omega)
        refine pk_le 20 (tk i) (fun z => by omega) (fun _ => pk_le 3 (tk i) (fun h3 => ?_) (fun h3 => ⟨vp_in_nI h3 (by omega), hs8, ?_⟩))
        · rw [show nI (tk i) - 10 = nI (tk i - 10) from pk_sub (b := 10) (by have := hT i (by omega); omega)]
          refine yv_over hn bk bl hd _ _ _ _ _ _ _ _ 0 0 (by omega) (by omega) (by omega) _ (ov_0 hE hV (by have := hT i (by omega); omega) (by have := hT i (by omega); omega)) _ ⟨hs8, ?_⟩
          rw [hcl]
          exact nm_e (nm_r (nI_1 _) (nm_e (fin _ st (ev_t2 (by omega) e) (fun v hv => ev_fb bl hv) hk hb)))
        · rw [hcl, nI_clamp (by omega), hbd _ h3]
          exact nm_e (nm_r (nI_1 _) (nm_e (fin (some (dg (tk i))) st (ev_t1 h3) (fun v hv => by cases hv; exact hdg _) hk hb)))
      refine pk_le st.length 0 (fun _ => p36 _) (fun hp => ⟨?_, p36 _⟩)
      obtain ⟨m, hm⟩ : ∃ m, st.length = m + 1 := ⟨st.length - 1, by omega⟩
      rw [hm, nI_pred]
      exact vp_in_nI (by omega) (by omega)
    · rw [e] at hwa
      cases st with
      | nil => exact absurd hwa (by decide)
      | cons x r =>
        have hlc' : r.length + 1 + (i + 1) ≤ c := hlc
        have e1 : nI (x :: r).length - 1 = nI r.length := nI_pred _
        have i1 : vp_in (nI r.length) 8 := vp_in_nI (by omega) (by omega)
        have cl : (nI r.length).toNatClampNeg = r.length := nI_clamp (by omega)
        have n0 : ¬ nI (x :: r).length ≤ 0 := nI_nle (Nat.succ_pos _) (show r.length + 1 < 2 ^ 31 by omega)
        refine br_f n0 ?_
        rw [e1, cl, show sa r.length = pt_o x from hk.1]
        refine ⟨i1, pk_le 20 (tk i) (fun _ => pk_eq (tk i) 20 (fun _ => br_f n0 ?_) (fun z => absurd e z)) (fun z => by omega)⟩
        cases x with
        | none =>
          refine br_f (by decide) ?_
          rw [e1, cl]
          exact ⟨i1, nm_e (nm_e (fin none r (by rw [e]; rfl) (fun v hv => nomatch hv) hk.2 (ev_bt hb)))⟩
        | some a =>
          have ha := ev_bh hb
          refine br_t (nI_pos' (by omega)) ?_
          refine yv_over hn bk bl hd _ _ _ _ _ _ _ _ 1 0 (by omega) ha (by omega) _ (ov_1 hE hV a) _ ?_
          rw [e1, cl]
          exact ⟨i1, nm_e (nm_e (fin _ r (by rw [e]; rfl) (fun v hv => ev_fb bl hv) hk.2 (ev_bt hb)))⟩
    · rw [e] at hwa
      cases st with
      | nil => exact absurd hwa (by decide)
      | cons x r =>
        cases r with
        | nil => exact absurd (show 2 ≤ 1 from hwa) (by decide)
        | cons y r =>
          have hlc' : r.length + 1 + 1 + (i + 1) ≤ c := hlc
          have e1 : nI (x :: y :: r).length - 1 = nI (r.length + 1) := nI_pred _
          have e2 : nI (x :: y :: r).length - 2 = nI r.length := pk_sub (a := r.length + 1 + 1) (b := 2) (by omega)
          have e3 : nI (x :: y :: r).length + (-1) = nI (r.length + 1) := pk_m1 _
          have i1 : vp_in (nI (r.length + 1)) 8 := vp_in_nI (by omega) (by omega)
          have i2 : vp_in (nI r.length) 8 := vp_in_nI (by omega) (by omega)
          have cl1 : (nI (r.length + 1)).toNatClampNeg = r.length + 1 := nI_clamp (by omega)
          have cl : (nI r.length).toNatClampNeg = r.length := nI_clamp (by omega)
          have n0 : ¬ nI (x :: y :: r).length ≤ 0 := nI_nle (Nat.succ_pos _) (show r.length + 1 + 1 < 2 ^ 31 by omega)
          have n1 : ¬ nI (x :: y :: r).length ≤ 1 := nI_ge (a := 1) (b := r.length + 1 + 1) (by omega) (by omega)
          refine br_f n0 ?_
          rw [e1, cl1, show sa (r.length + 1) = pt_o x from hk.1]
          refine ⟨i1, pk_le 20 (tk i) (fun _ => pk_eq (tk i) 20 (fun z => by omega) (fun _ => br_f n1 ?_)) (fun z => by omega)⟩
          rw [e2, e3, cl, show sa r.length = pt_o y from hk.2.1]
          have fn := fun (z : Option Nat) h1 h2 => fin z r h1 h2 hk.2.2 (ev_bt (ev_bt hb))
          refine ⟨i2, nm_e ?_⟩
          cases x with
          | none => exact br_t (by decide) ⟨i2, nm_e (nm_e (nm_e (fn none (by rw [e]; rfl) (fun v hv => nomatch hv))))⟩
          | some a =>
            have ha := ev_bh hb
            refine br_f (nI_pos (by omega)) ?_
            cases y with
            | none => exact br_f (by decide) ⟨i2, nm_e (nm_e (nm_e (fn none (by rw [e]; rfl) (fun v hv => nomatch hv))))⟩
            | some b =>
              have hb' := ev_bh (ev_bt hb)
              refine br_t (nI_pos' (by omega)) ?_
              exact yv_over hn bk bl hd _ _ _ _ _ _ _ _ 2 b (by omega) ha hb' _ (ov_2 hE a b) _ ⟨i2, nm_e (nm_e (nm_e (fn _ (by rw [e]; rfl) (fun v hv => ev_fb bl hv))))⟩
theorem yv_value {n c : Nat} {sy fi se l tk kd aa bb dg : Nat → Nat} (G : pt_G n c sy fi se l tk kd aa bb) (hW : wh_W tk c) (hdg : ∀ v, dg v < 100) {bd : Nat → Int32} (hbd : ∀ v, v < 3 → bd v = nI (dg v)) (w ct fd : Int32) (kp sa : Nat → Int32) (post : Int32 → SY → Prop)
    (h : ∀ sa', post (pt_o (ev_h (ev_r (ev_f n sy fi se l) dg tk c []))) (nI n, nI c, w, ct, fd, pt_f kd, pt_f aa, pt_f bb, pt_f l, pt_f tk, bd, kp, sa')) :
    wpY_value post (nI n, nI c, w, ct, fd, pt_f kd, pt_f aa, pt_f bb, pt_f l, pt_f tk, bd, kp, sa) := by
  refine nm_r (wh_m1 _) ⟨c + 1, yv_9 G hW hdg hbd w ct fd kp post c [] sa (by omega) ?_ ?_ True.intro ev_b0 h⟩
  · show (0 : Int) = _
    omega
  · show 0 + c ≤ c
    omega
theorem yv_tried {n c : Nat} (hn : n ≤ 20) (hc : c ≤ 7) {l tk : Nat → Nat} (bl : pt_B l) (bt : pt_B tk) (w ct fd : Int32) (kd aa bb bd kp st : Nat → Int32) {v k : Nat} (hv : v < 100) (hk : k < 100) (post : Int32 → Prop) (h1 : ev_T n c l tk v k → post 1) (h0 : ¬ ev_T n c l tk v k → post 0) :
    wpY_tried post (nI n, nI c, w, ct, fd, kd, aa, bb, pt_f l, pt_f tk, bd, kp, st) (nI v) (nI k) := by
  have b := bl k
  refine yw_has hc bt _ _ _ _ _ _ _ _ _ _ _ hv _ (fun hH => br_f (by decide) (pk_le n k (fun hk' => h0 ?_) (fun hk' => ⟨vp_in_nI (by omega) (by omega), pk_eq (l k) k (fun e => h1 (Or.inl ⟨hH, hk', e⟩)) (fun e => h0 ?_) (pt_at l (by omega)) rfl⟩))) (fun hH => br_t rfl (pk_eq k 0 (fun e => h1 (Or.inr ⟨hH, e⟩)) (fun e => h0 ?_)))
  · exact fun z => z.elim (fun z => by have := z.2.1; omega) (fun z => z.1 hH)
  · exact fun z => z.elim (fun z => e z.2.2) (fun z => z.1 hH)
  · exact fun z => z.elim (fun z => hH z.1) (fun z => e z.2)
