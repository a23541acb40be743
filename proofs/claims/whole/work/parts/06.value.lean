def pt_G (n c : Nat) (sy fi se l tk kd aa bb : Nat → Nat) : Prop :=
  n ≤ 20 ∧ c ≤ 7 ∧ (pt_B sy ∧ pt_B fi ∧ pt_B se ∧ pt_B l ∧ pt_B tk ∧ pt_B kd ∧ pt_B aa ∧ pt_B bb) ∧ cl_E n sy fi se kd aa bb ∧ cl_V n l ∧ cl_K n sy fi se l ∧ wh_T tk c
def ev_f (n : Nat) (sy fi se l : Nat → Nat) (t a b : Nat) : Option Nat := (pt_s (cl_p sy fi se l t a b) n 0).map l
def ev_t (cf : Nat → Nat → Nat → Option Nat) (dg : Nat → Nat) (t : Nat) (st : List (Option Nat)) : List (Option Nat) :=
  if t < 3 then some (dg t) :: st
  else if t < 20 then cf t 0 0 :: st
  else if t = 20 then (match st with | x :: r => (x.bind fun a => cf 20 a 0) :: r | [] => [])
  else (match st with | x :: y :: r => (x.bind fun a => y.bind fun b => cf 21 a b) :: r | _ => [])
def ev_r (cf : Nat → Nat → Nat → Option Nat) (dg tk : Nat → Nat) : Nat → List (Option Nat) → List (Option Nat)
  | 0, st => st
  | i + 1, st => ev_r cf dg tk i (ev_t cf dg (tk i) st)
def ev_h : List (Option Nat) → Option Nat
  | x :: _ => x
  | [] => none
def ev_k (a : Nat → Int32) : List (Option Nat) → Prop
  | [] => True
  | x :: r => a r.length = pt_o x ∧ ev_k a r
def ev_b (st : List (Option Nat)) : Prop := ∀ v, some v ∈ st → v < 100
theorem ev_t1 {cf : Nat → Nat → Nat → Option Nat} {dg : Nat → Nat} {t : Nat} {st : List (Option Nat)} (h : t < 3) : ev_t cf dg t st = some (dg t) :: st := if_pos h
theorem ev_t2 {cf : Nat → Nat → Nat → Option Nat} {dg : Nat → Nat} {t : Nat} {st : List (Option Nat)} (h : ¬ t < 3) (h2 : t < 20) : ev_t cf dg t st = cf t 0 0 :: st := by
  unfold ev_t
  rw [if_neg h, if_pos h2]
theorem ev_t3 {cf : Nat → Nat → Nat → Option Nat} {dg : Nat → Nat} {x : Option Nat} {st : List (Option Nat)} : ev_t cf dg 20 (x :: st) = (x.bind fun a => cf 20 a 0) :: st := rfl
theorem ev_t4 {cf : Nat → Nat → Nat → Option Nat} {dg : Nat → Nat} {x y : Option Nat} {st : List (Option Nat)} : ev_t cf dg 21 (x :: y :: st) = (x.bind fun a => y.bind fun b => cf 21 a b) :: st := rfl
theorem ev_ku {a : Nat → Int32} {k : Nat} {v : Int32} : ∀ st : List (Option Nat), st.length ≤ k → ev_k a st → ev_k (upd a k v) st := by
  intro st
  induction st with
  | nil => intro _ _; exact True.intro
  | cons x r ih =>
    intro hl h
    have hl' : r.length + 1 ≤ k := hl
    exact ⟨by rw [pk_un (by omega)]; exact h.1, ih (by omega) h.2⟩
theorem ev_kp {a : Nat → Int32} {st : List (Option Nat)} {x : Option Nat} (h : ev_k a st) : ev_k (upd a st.length (pt_o x)) (x :: st) := ⟨pk_us, ev_ku st (Nat.le_refl _) h⟩
theorem ev_fb {n : Nat} {sy fi se l : Nat → Nat} (bl : pt_B l) {t a b v : Nat} (h : ev_f n sy fi se l t a b = some v) : v < 100 := by
  unfold ev_f at h
  cases hs : pt_s (cl_p sy fi se l t a b) n 0 with
  | none => rw [hs] at h; cases h
  | some r => rw [hs] at h; cases h; exact bl r
theorem ev_bb {n : Nat} {sy fi se l : Nat → Nat} (bl : pt_B l) {x y : Option Nat} {v : Nat} (h : (x.bind fun a => y.bind fun b => ev_f n sy fi se l 21 a b) = some v) : v < 100 := by
  cases x with
  | none => cases h
  | some a =>
    cases y with
    | none => cases h
    | some b => exact ev_fb bl h
theorem ev_b1 {n : Nat} {sy fi se l : Nat → Nat} (bl : pt_B l) {x : Option Nat} {v : Nat} (h : (x.bind fun a => ev_f n sy fi se l 20 a 0) = some v) : v < 100 := by
  cases x with
  | none => cases h
  | some a => exact ev_fb bl h
theorem ev_bc {x : Option Nat} {st : List (Option Nat)} (h : ∀ v, x = some v → v < 100) (hs : ev_b st) : ev_b (x :: st) := by
  intro v hv
  rcases List.mem_cons.mp hv with e | e
  · exact h v e.symm
  · exact hs v e
theorem ev_bt {x : Option Nat} {st : List (Option Nat)} (h : ev_b (x :: st)) : ev_b st := fun v hv => h v (List.mem_cons_of_mem _ hv)
theorem ev_bh {x : Nat} {st : List (Option Nat)} (h : ev_b (some x :: st)) : x < 100 := h x List.mem_cons_self
theorem ev_nt {n : Nat} {sy fi se l dg : Nat → Nat} {tk : Nat → Nat} {c i : Nat} (hT : wh_T tk c) (hi : i < c) {st : List (Option Nat)} (hl : wh_a (tk i) ≤ st.length) (h : none ∈ st) :
    none ∈ ev_t (ev_f n sy fi se l) dg (tk i) st := by
  rcases (show tk i < 3 ∨ ¬ tk i < 3 ∧ tk i < 20 ∨ tk i = 20 ∨ tk i = 21 from by have := hT i hi; omega) with e | e | e | e
  · rw [ev_t1 e]; exact List.mem_cons_of_mem _ h
  · rw [ev_t2 e.1 e.2]; exact List.mem_cons_of_mem _ h
  · rw [e] at hl ⊢
    cases st with
    | nil => cases h
    | cons x r =>
      rw [ev_t3]
      rcases List.mem_cons.mp h with z | z
      · rw [← z]; exact List.mem_cons_self
      · exact List.mem_cons_of_mem _ z
  · rw [e] at hl ⊢
    cases st with
    | nil => cases h
    | cons x r =>
      cases r with
      | nil => exact absurd (show 2 ≤ 1 from hl) (by decide)
      | cons y r =>
        rw [ev_t4]
        rcases List.mem_cons.mp h with z | z
        · rw [← z]; exact List.mem_cons_self
        · rcases List.mem_cons.mp z with z | z
          · rw [← z]
            cases x with
            | none => exact List.mem_cons_self
            | some a => exact List.mem_cons_self
          · exact List.mem_cons_of_mem _ z
theorem ev_lt {cf : Nat → Nat → Nat → Option Nat} {dg tk : Nat → Nat} {c i : Nat} (hT : wh_T tk c) (hi : i < c) {st : List (Option Nat)} (hl : wh_a (tk i) ≤ st.length) : (ev_t cf dg (tk i) st).length + wh_a (tk i) = st.length + 1 := by
  rcases (show tk i < 3 ∨ ¬ tk i < 3 ∧ tk i < 20 ∨ tk i = 20 ∨ tk i = 21 from by have := hT i hi; omega) with e | e | e | e
  · rw [ev_t1 e, wh_a0 (by omega)]; rfl
  · rw [ev_t2 e.1 e.2, wh_a0 (by omega)]; rfl
  · rw [e] at hl ⊢
    cases st with
    | nil => exact absurd hl (by decide)
    | cons x r => rfl
  · rw [e] at hl ⊢
    cases st with
    | nil => exact absurd hl (by decide)
    | cons x r =>
      cases r with
      | nil => exact absurd (show 2 ≤ 1 from hl) (by decide)
      | cons y r => rfl
theorem ev_wa {tk : Nat → Nat} {c i : Nat} (hW : wh_W tk c) (hi : i < c) {m : Nat} (h : (m : Int) = wh_S tk (i + 1) - wh_S tk c) : wh_a (tk i) ≤ m := by
  have a := hW.1 i hi
  have b := hW.2
  have c : wh_S tk (i + 1) = wh_S tk i + (wh_a (tk i) : Int) - 1 := rfl
  omega
theorem ev_wl {cf : Nat → Nat → Nat → Option Nat} {dg tk : Nat → Nat} {c i : Nat} (hT : wh_T tk c) (hW : wh_W tk c) (hi : i < c) {st : List (Option Nat)} (h : (st.length : Int) = wh_S tk (i + 1) - wh_S tk c) : ((ev_t cf dg (tk i) st).length : Int) = wh_S tk i - wh_S tk c := by
  have a := ev_lt (cf := cf) (dg := dg) hT hi (ev_wa hW hi h)
  have c : wh_S tk (i + 1) = wh_S tk i + (wh_a (tk i) : Int) - 1 := rfl
  omega
theorem ev_no {n : Nat} {sy fi se l dg : Nat → Nat} {tk : Nat → Nat} {c : Nat} (hT : wh_T tk c) (hW : wh_W tk c) : ∀ i (st : List (Option Nat)), i ≤ c → (st.length : Int) = wh_S tk i - wh_S tk c → none ∈ st → ev_h (ev_r (ev_f n sy fi se l) dg tk i st) = none := by
  intro i
  induction i with
  | zero =>
    intro st _ hl h
    have hl : (st.length : Int) = 0 - wh_S tk c := hl
    have := hW.2
    cases st with
    | nil => rfl
    | cons x r =>
      cases r with
      | nil =>
        rcases List.mem_cons.mp h with z | z
        · rw [← z]; rfl
        · cases z
      | cons y r => simp only [List.length_cons] at hl; omega
  | succ i ih =>
    intro st hi hl h
    exact ih _ (by omega) (ev_wl hT hW (by omega) hl) (ev_nt hT (by omega) (ev_wa hW (by omega) hl) h)
theorem xv_isVar {t : Nat} (ht : t < 100) (u : SX) (post : Int32 → Prop) (h1 : t < 3 → post 1) (h0 : ¬ t < 3 → post 0) : wpX_isVariable post u (nI t) := by
  obtain ⟨_, _, _, _, _, _, _, _, _⟩ := u
  exact br_f (nI_pos (by omega)) (pk_le 3 t (fun e => h0 (by omega)) (fun e => h1 e))
theorem xv_108 (post : Int32 → SX → Prop) (J19 : Int32 → Int32 → (Nat → Int32) → (Nat → Int32) → (Nat → Int32) → (Nat → Int32) → (Nat → Int32) → (Nat → Int32) → (Nat → Int32) → Prop) {ht k : Nat} (x3 : Int32) (hk : k ≤ ht) (hb : ht - k < 7) {z : Option Nat} (hz : ∀ v, z = some v → v < 100) (nc tc : Int32) (sy fi se la tk bd vl : Nat → Int32)
    (hN : z = none → post (-1) (nc, tc, sy, fi, se, la, tk, bd, vl)) (hS : z ≠ none → J19 (nI (ht - k + 1)) (x3 + (-1)) sy fi se la tk bd (upd vl (ht - k) (pt_o z))) :
    wX_valueUnder_108 post J19 (nI ht) x3 (nI k) (pt_o z) nc tc sy fi se la tk bd vl := by
  cases z with
  | none => exact br_t rfl (hN rfl)
  | some v =>
    have := hz v rfl
    refine br_f (pt_m1 (by omega)) (nm_r (pk_sub hk) ⟨vp_in_nI hb (by omega), nm_r (e' := upd vl (ht - k) (nI v)) ?_ (nm_r (nI_1 _) (nm_e (hS (fun z => nomatch z))))⟩)
    rw [nI_clamp (by omega)]; rfl
theorem xv_19 {n c : Nat} {sy fi se l tk kd aa bb dg : Nat → Nat} (G : pt_G n c sy fi se l tk kd aa bb) (hW : wh_W tk c) (hdg : ∀ v, dg v < 100) {bd : Nat → Int32} (hbd : ∀ v, v < 3 → bd v = nI (dg v)) (post : Int32 → SX → Prop) :
    ∀ i (st : List (Option Nat)) (vl : Nat → Int32), i ≤ c → (st.length : Int) = wh_S tk i - wh_S tk c → st.length + i ≤ c → ev_k vl st → ev_b st → none ∉ st →
      (∀ vl', post (pt_o (ev_h (ev_r (ev_f n sy fi se l) dg tk i st))) (nI n, nI c, pt_f sy, pt_f fi, pt_f se, pt_f l, pt_f tk, bd, vl')) →
      wX_valueUnder_19 post (nI n) (nI c) (i + 1) (nI st.length) (nI i + (-1)) (pt_f sy) (pt_f fi) (pt_f se) (pt_f l) (pt_f tk) bd vl := by
  obtain ⟨hn, hc, ⟨bs, bf, be, bl, bt, bk, ba, bbb⟩, hE, hV, hK, hT⟩ := G
  intro i
  induction i with
  | zero =>
    intro st vl _ hl _ hk _ _ h
    have hl : (st.length : Int) = 0 - wh_S tk c := hl
    have hw2 := hW.2
    refine br_t (by decide +kernel) ?_
    cases st with
    | nil => simp only [List.length_nil] at hl; omega
    | cons x r =>
      cases r with
      | nil =>
        have h := h vl
        show post (vl 0) _
        rw [show vl 0 = pt_o x from hk.1]
        exact h
      | cons y r => simp only [List.length_cons] at hl; omega
  | succ i ih =>
    intro st vl hi hl hlc hk hb hno h
    have h31 : i < 2 ^ 31 := by omega
    have hat : pt_f tk (nI i).toNatClampNeg = nI (tk i) := pt_at tk h31
    have hwa := ev_wa hW (show i < c by omega) hl
    have hwl := ev_wl (cf := ev_f n sy fi se l) (dg := dg) hT hW (show i < c by omega) hl
    have hlt := ev_lt (cf := ev_f n sy fi se l) (dg := dg) hT (show i < c by omega) hwa
    have hbt := bt i
    have fin : ∀ (z : Option Nat) (r : List (Option Nat)) (k : Nat), k + r.length = st.length → ev_t (ev_f n sy fi se l) dg (tk i) st = z :: r → (∀ v, z = some v → v < 100) → ev_k vl r → ev_b r → none ∉ r →
        wX_valueUnder_108 post (wX_valueUnder_19 post (nI n) (nI c) (i + 1)) (nI st.length) (nI i) (nI k) (pt_o z) (nI n) (nI c) (pt_f sy) (pt_f fi) (pt_f se) (pt_f l) (pt_f tk) bd vl := by
      intro z r k hkr ht hz hkr2 hbr hnr
      have er : st.length - k = r.length := by omega
      have h : ∀ vl', post (pt_o (ev_h (ev_r (ev_f n sy fi se l) dg tk i (ev_t (ev_f n sy fi se l) dg (tk i) st)))) (nI n, nI c, pt_f sy, pt_f fi, pt_f se, pt_f l, pt_f tk, bd, vl') := h
      rw [ht] at h hwl hlt
      have hlt' : (r.length + 1) + wh_a (tk i) = st.length + 1 := hlt
      refine xv_108 post _ (nI i) (by omega) (by omega) hz _ _ _ _ _ _ _ _ _ (fun e => ?_) (fun e => ?_)
      · have h := h vl
        rw [ev_no hT hW i _ (by omega) hwl (by rw [e]; exact List.mem_cons_self)] at h
        exact h
      · rw [er]
        refine ih (z :: r) _ (by omega) hwl ?_ (ev_kp hkr2) (ev_bc hz hbr) ?_ h
        · show r.length + 1 + i ≤ c
          omega
        · intro hm
          rcases List.mem_cons.mp hm with q | q
          · exact e q.symm
          · exact hnr q
    have cls : ∀ (a b k : Nat) (r : List (Option Nat)), ¬ tk i < 3 → a < 100 → b < 100 → k + r.length = st.length → ev_t (ev_f n sy fi se l) dg (tk i) st = ev_f n sy fi se l (tk i) a b :: r → ev_k vl r → ev_b r → none ∉ r →
        wX_valueUnder_77 post (wX_valueUnder_19 post (nI n) (nI c) (i + 1)) (nI st.length) (nI i) (nI (tk i)) (nI k) (nI a) (nI b) (nI n) (nI c) (pt_f sy) (pt_f fi) (pt_f se) (pt_f l) (pt_f tk) bd vl := by
      intro a b k r h3 ha hb' hkr ht h1 h2 h4
      exact xv_isVar hbt _ _ (fun e => absurd e h3) (fun _ => br_t rfl (xc_classOf hn bs bl (cl_Ec hE) _ _ _ _ hbt ha hb' _ (fin (ev_f n sy fi se l (tk i) a b) r k hkr ht (fun v hv => ev_fb bl hv) h1 h2 h4)))
    rw [pk_m1 i]
    refine br_f (nI_pos h31) ⟨vp_in_nI (by omega) (by omega), nm_r hat (xw_arity hbt _ _ ?_)⟩
    rcases (show tk i < 3 ∨ ¬ tk i < 3 ∧ tk i < 20 ∨ tk i = 20 ∨ tk i = 21 from by have := hT i (by omega); omega) with e | e | e | e
    · rw [wh_a0 (by omega)]
      refine br_t (by decide +kernel) (br_f (by decide +kernel) ?_)
      refine xv_isVar hbt _ _ (fun _ => br_f (by decide) ⟨vp_in_nI e (by omega), ?_⟩) (fun z => absurd e z)
      rw [nI_clamp (by omega), hbd _ e]
      exact fin (some (dg (tk i))) st 0 (by omega) (ev_t1 e) (fun v hv => by cases hv; exact hdg _) hk hb hno
    · rw [wh_a0 (by omega)]
      refine br_t (by decide +kernel) (br_f (by decide +kernel) ?_)
      exact cls 0 0 0 st e.1 (by omega) (by omega) (by omega) (ev_t2 e.1 e.2) hk hb hno
    · rw [e] at hwa
      rw [show wh_a (tk i) = 1 from by rw [e]; rfl]
      cases st with
      | nil => exact absurd hwa (by decide)
      | cons x r =>
        cases x with
        | none => exact absurd List.mem_cons_self hno
        | some a =>
          have hlc' : r.length + 1 + (i + 1) ≤ c := hlc
          refine br_f (by decide +kernel) ⟨?_, br_f (by decide +kernel) ?_⟩
          · rw [show nI (some a :: r).length - 1 = nI r.length from nI_pred _]
            exact vp_in_nI (by omega) (by omega)
          · rw [show nI (some a :: r).length - 1 = nI r.length from nI_pred _, nI_clamp (by omega), show vl r.length = nI a from hk.1]
            exact cls a 0 1 r (by omega) (ev_bh hb) (by omega) (Nat.add_comm _ _) (by rw [e]; rfl) hk.2 (ev_bt hb) (fun z => hno (List.mem_cons_of_mem _ z))
    · rw [e] at hwa
      rw [show wh_a (tk i) = 2 from by rw [e]; rfl]
      cases st with
      | nil => exact absurd hwa (by decide)
      | cons x r =>
        cases r with
        | nil => exact absurd (show 2 ≤ 1 from hwa) (by decide)
        | cons y r =>
          cases x with
          | none => exact absurd List.mem_cons_self hno
          | some a =>
            cases y with
            | none => exact absurd (List.mem_cons_of_mem _ List.mem_cons_self) hno
            | some b =>
              have hlc' : r.length + 1 + 1 + (i + 1) ≤ c := hlc
              have e1 : nI (some a :: some b :: r).length - 1 = nI (r.length + 1) := nI_pred _
              have e2 : nI (some a :: some b :: r).length - 2 = nI r.length := pk_sub (a := r.length + 1 + 1) (b := 2) (by omega)
              refine br_f (by decide +kernel) ⟨?_, br_t (by decide +kernel) ⟨?_, ?_⟩⟩
              · rw [e1]; exact vp_in_nI (by omega) (by omega)
              · rw [e2]; exact vp_in_nI (by omega) (by omega)
              · rw [e1, e2, nI_clamp (by omega), nI_clamp (by omega), show vl (r.length + 1) = nI a from hk.1, show vl r.length = nI b from hk.2.1]
                exact cls a b 2 r (by omega) (ev_bh hb) (ev_bh (ev_bt hb)) (Nat.add_comm _ _) (by rw [e]; rfl) hk.2.2 (ev_bt (ev_bt hb)) (fun z => hno (List.mem_cons_of_mem _ (List.mem_cons_of_mem _ z)))
