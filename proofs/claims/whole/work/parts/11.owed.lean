def i_Rel (k : Nat) (u : SX) (v : SY) : Prop :=
  ∃ (n c : Nat) (sy fi se l tk kd aa bb : Nat → Nat) (bd vl : Nat → Int32) (w ct fd : Int32) (bd' kp st : Nat → Int32),
    u = (nI n, nI c, pt_f sy, pt_f fi, pt_f se, pt_f l, pt_f tk, bd, vl) ∧ v = (nI n, nI c, w, ct, fd, pt_f kd, pt_f aa, pt_f bb, pt_f l, pt_f tk, bd', kp, st) ∧ pt_G n c sy fi se l tk kd aa bb
theorem i_up {k : Nat} {u : SX} {v : SY} (h : i_Rel k u v) : i_Rel (k + 3) u v := h
theorem rl_m {k n c : Nat} {sy fi se l tk kd aa bb : Nat → Nat} (G : pt_G n c sy fi se l tk kd aa bb) (bd vl : Nat → Int32) (w ct fd : Int32) (bd' kp st : Nat → Int32) :
    i_Rel k (nI n, nI c, pt_f sy, pt_f fi, pt_f se, pt_f l, pt_f tk, bd, vl) (nI n, nI c, w, ct, fd, pt_f kd, pt_f aa, pt_f bb, pt_f l, pt_f tk, bd', kp, st) :=
  ⟨n, c, sy, fi, se, l, tk, kd, aa, bb, bd, vl, w, ct, fd, bd', kp, st, rfl, rfl, G⟩
theorem i_vc0 : wpX_init (fun u => wpY_init (fun v => i_Rel 0 u v)) := by
  have b : pt_B (fun _ => 0) := fun _ => by show 0 < 100; omega
  refine rl_m (k := 0) (n := 0) (c := 0) (sy := fun _ => 0) (fi := fun _ => 0) (se := fun _ => 0) (l := fun _ => 0) (tk := fun _ => 0) (kd := fun _ => 0) (aa := fun _ => 0) (bb := fun _ => 0) ⟨by omega, by omega, ⟨b, b, b, b, b, b, b, b⟩, ⟨?_, ?_⟩, ?_, ?_, ?_⟩ _ _ _ _ _ _ _ _
  · intro k hk; exact absurd hk (Nat.not_lt_zero _)
  · intro i j hi; exact absurd hi (Nat.not_lt_zero _)
  · intro i hi; exact absurd hi (Nat.not_lt_zero _)
  · intro i j hi; exact absurd hi (Nat.not_lt_zero _)
  · intro i hi; exact absurd hi (Nat.not_lt_zero _)
theorem i_vc_constant {k : Nat} {u : SX} {v : SY} (I : i_Rel k u v) (hk : k + 3 ≤ 1536) (v1 : Int32) : wpX_constant (fun r u' => wpY_constant (fun r' v' => r' = r ∧ i_Rel (k + 3) u' v') v v1) u v1 := by
  obtain ⟨n, c, sy, fi, se, l, tk, kd, aa, bb, bd, vl, w, ct, fd, bd', kp, st, rfl, rfl, G⟩ := I
  by_cases h0 : v1 < 0
  · exact br_t h0 (br_t h0 ⟨rfl, rl_m G _ _ _ _ _ _ _ _⟩)
  · obtain ⟨j, hj, rfl⟩ := nI_of h0
    by_cases h6 : j < 6
    · refine br_f h0 (br_t (nI_lt (b := 6) h6 (by omega)) ?_)
      rw [show (10 : Int32) + nI j = nI (10 + j) from nI_add 10 j]
      refine mk_X G (f := 0) (g := 0) (x := 0) (y := j) (z := 0) (by omega) bd vl w ct fd bd' kp st _ (fun r n' sy' fi' se' l' kd' aa' bb' G' hY => ?_)
      exact br_f h0 (br_t (nI_le (b := 5) (by omega) (by omega)) (hY _ ⟨rfl, rl_m G' _ _ _ _ _ _ _ _⟩))
    · exact br_f h0 (br_f (nI_nlt (b := 6) (by omega) hj) (br_f h0 (br_f (nI_ge (a := 5) (by omega) hj) ⟨rfl, rl_m G _ _ _ _ _ _ _ _⟩)))
theorem i_vc_one {k : Nat} {u : SX} {v : SY} (I : i_Rel k u v) (hk : k + 3 ≤ 1536) (v1 : Int32) : wpX_one (fun r u' => wpY_one (fun r' v' => r' = r ∧ i_Rel (k + 3) u' v') v v1) u v1 := by
  obtain ⟨n, c, sy, fi, se, l, tk, kd, aa, bb, bd, vl, w, ct, fd, bd', kp, st, rfl, rfl, G⟩ := I
  unfold wpX_one wpY_one
  dsimp only
  rcases ni_cs v1 G.1 with h | ⟨j, hj, rfl⟩
  · refine xi_no h ?_
    refine br_t rfl ?_
    refine yi_no h ?_
    refine br_t rfl ?_
    exact ⟨rfl, rl_m G _ _ _ _ _ _ _ _⟩
  · refine xi_yes G.1 hj ?_
    refine br_f (by decide) ?_
    refine mk_X G (s := 20) (f := j) (g := 0) (x := 1) (y := j) (z := 0) (by omega) bd vl w ct fd bd' kp st _ (fun r n' sy' fi' se' l' kd' aa' bb' G' hY => ?_)
    refine yi_yes G.1 hj ?_
    refine br_f (by decide) ?_
    refine hY _ ?_
    exact ⟨rfl, rl_m G' _ _ _ _ _ _ _ _⟩
theorem i_vc_two {k : Nat} {u : SX} {v : SY} (I : i_Rel k u v) (hk : k + 3 ≤ 1536) (v1 : Int32) (v2 : Int32) : wpX_two (fun r u' => wpY_two (fun r' v' => r' = r ∧ i_Rel (k + 3) u' v') v v1 v2) u v1 v2 := by
  obtain ⟨n, c, sy, fi, se, l, tk, kd, aa, bb, bd, vl, w, ct, fd, bd', kp, st, rfl, rfl, G⟩ := I
  unfold wpX_two wpY_two
  dsimp only
  rcases ni_cs v1 G.1 with h | ⟨j, hj, rfl⟩
  · refine xi_no h ?_
    refine br_t rfl ?_
    refine yi_no h ?_
    refine br_t rfl ?_
    exact ⟨rfl, rl_m G _ _ _ _ _ _ _ _⟩
  · rcases ni_cs v2 G.1 with h | ⟨m, hm, rfl⟩
    · refine xi_yes G.1 hj ?_
      refine br_f (by decide) ?_
      refine xi_no h ?_
      refine br_t rfl ?_
      refine yi_yes G.1 hj ?_
      refine br_f (by decide) ?_
      refine yi_no h ?_
      refine br_t rfl ?_
      exact ⟨rfl, rl_m G _ _ _ _ _ _ _ _⟩
    · refine xi_yes G.1 hj ?_
      refine br_f (by decide) ?_
      refine xi_yes G.1 hm ?_
      refine br_f (by decide) ?_
      refine mk_X G (s := 21) (f := j) (g := m) (x := 2) (y := j) (z := m) (by omega) bd vl w ct fd bd' kp st _ (fun r n' sy' fi' se' l' kd' aa' bb' G' hY => ?_)
      refine yi_yes G.1 hj ?_
      refine br_f (by decide) ?_
      refine yi_yes G.1 hm ?_
      refine br_f (by decide) ?_
      refine hY _ ?_
      exact ⟨rfl, rl_m G' _ _ _ _ _ _ _ _⟩
theorem i_vc_equate {k : Nat} {u : SX} {v : SY} (I : i_Rel k u v) (hk : k + 3 ≤ 1536) (v1 : Int32) (v2 : Int32) : wpX_equate (fun r u' => wpY_equate (fun r' v' => r' = r ∧ i_Rel (k + 3) u' v') v v1 v2) u v1 v2 := by
  obtain ⟨n, c, sy, fi, se, l, tk, kd, aa, bb, bd, vl, w, ct, fd, bd', kp, st, rfl, rfl, G⟩ := I
  unfold wpX_equate wpY_equate
  dsimp only
  rcases ni_cs v1 G.1 with h | ⟨j, hj, rfl⟩
  · refine xi_no h ?_
    refine br_t rfl ?_
    refine yi_no h ?_
    refine br_t rfl ?_
    exact ⟨rfl, rl_m G _ _ _ _ _ _ _ _⟩
  · rcases ni_cs v2 G.1 with h | ⟨m, hm, rfl⟩
    · refine xi_yes G.1 hj ?_
      refine br_f (by decide) ?_
      refine xi_no h ?_
      refine br_t rfl ?_
      refine yi_yes G.1 hj ?_
      refine br_f (by decide) ?_
      refine yi_no h ?_
      refine br_t rfl ?_
      exact ⟨rfl, rl_m G _ _ _ _ _ _ _ _⟩
    · have G' := G
      obtain ⟨hn, hc, ⟨bs, bf, be, bl, bt, bk, ba, bbb⟩, hE, hV, hK, hT⟩ := G'
      have hV' := cl_JV hV hj hm
      have bJ : pt_B (cl_J n (l j) (l m) l) := by
        intro i
        have := bl i
        have := bl j
        have := bl m
        by_cases z : i < n ∧ (l i = l j ∨ l i = l m)
        · rw [cl_Jt z.1 z.2]
          have := (cl_mn (l j) (l m)).2.1
          omega
        · rw [cl_Jf z]; omega
      refine xi_yes hn hj ?_
      refine br_f (by decide) ?_
      refine xi_yes hn hm ?_
      refine br_f (by decide) ?_
      refine xc_join hn bl _ _ _ _ _ _ _ (by omega) (by omega) _ ?_
      refine xc_close hn (by omega) bs bJ hV' (cl_Ec hE) _ _ _ _ _ (fun l' hI' hK' => ?_)
      have bl' := cl_B hn bJ hI'
      refine xc_count hn bl' _ _ _ _ _ _ _ _ ?_
      refine yi_yes hn hj ?_
      refine br_f (by decide) ?_
      refine yi_yes hn hm ?_
      refine br_f (by decide) ?_
      refine yc_join hn bl _ _ _ _ _ _ _ _ _ _ _ (by omega) (by omega) _ ?_
      refine yc_close hn (by omega) bk bJ hV' hE _ _ _ _ _ _ _ _ _ (fun l'' hI'' hK'' => ?_)
      rw [cl_U hI'' hK'' hI' hK']
      refine yc_count hn bl' _ _ _ _ _ _ _ _ _ _ _ _ ?_
      exact ⟨rfl, rl_m ⟨hn, hc, ⟨bs, bf, be, bl', bt, bk, ba, bbb⟩, hE, hI'.1, hK', hT⟩ _ _ _ _ _ _ _ _⟩
theorem i_vc_leader {k : Nat} {u : SX} {v : SY} (I : i_Rel k u v) (hk : k + 3 ≤ 1536) (v1 : Int32) : wpX_leader (fun r => wpY_leader (fun r' => r' = r ∧ i_Rel (k + 3) u v) v v1) u v1 := by
  have I' : i_Rel (k + 3) u v := I
  obtain ⟨n, c, sy, fi, se, l, tk, kd, aa, bb, bd, vl, w, ct, fd, bd', kp, st, rfl, rfl, G⟩ := I
  unfold wpX_leader wpY_leader
  dsimp only
  rcases ni_cs v1 G.1 with h | ⟨j, hj, rfl⟩
  · refine xi_no h ?_
    refine br_t rfl ?_
    refine yi_no h ?_
    refine br_t rfl ?_
    exact ⟨rfl, I'⟩
  · have hn := G.1
    have hi : vp_in (nI j) 20 := vp_in_nI (by omega) (by omega)
    refine xi_yes hn hj ?_
    refine br_f (by decide) ⟨hi, ?_⟩
    refine yi_yes hn hj ?_
    exact br_f (by decide) ⟨hi, rfl, I'⟩
theorem i_vc_classes {k : Nat} {u : SX} {v : SY} (I : i_Rel k u v) (hk : k + 3 ≤ 1536) : wpX_classes (fun r => wpY_classes (fun r' => r' = r ∧ i_Rel (k + 3) u v) v) u := by
  have I' : i_Rel (k + 3) u v := I
  obtain ⟨n, c, sy, fi, se, l, tk, kd, aa, bb, bd, vl, w, ct, fd, bd', kp, st, rfl, rfl, G⟩ := I
  unfold wpX_classes wpY_classes
  dsimp only
  have bl := G.2.2.1.2.2.2.1
  refine xc_count G.1 bl _ _ _ _ _ _ _ _ ?_
  refine yc_count G.1 bl _ _ _ _ _ _ _ _ _ _ _ _ ?_
  exact ⟨rfl, I'⟩
theorem i_vc_token {k : Nat} {u : SX} {v : SY} (I : i_Rel k u v) (hk : k + 3 ≤ 1536) (v1 : Int32) : wpX_token (fun r u' => wpY_token (fun r' v' => r' = r ∧ i_Rel (k + 3) u' v') v v1) u v1 := by
  obtain ⟨n, c, sy, fi, se, l, tk, kd, aa, bb, bd, vl, w, ct, fd, bd', kp, st, rfl, rfl, G⟩ := I
  unfold wpX_token
  dsimp only
  have G' := G
  obtain ⟨hn, hc, ⟨bs, bf, be, bl, bt, bk, ba, bbb⟩, hE, hV, hK, hT⟩ := G'
  by_cases h7 : c = 7
  · subst h7
    exact br_f (by decide +kernel) (br_t rfl ⟨rfl, rl_m G _ _ _ _ _ _ _ _⟩)
  · have c7 : c < 7 := by omega
    have hi : vp_in (nI c) 7 := vp_in_nI c7 (by omega)
    have y7 : ¬ nI c = 7 := fun z => h7 ((nI_eq (b := 7) (by omega) (by omega)).mp z)
    refine br_t (nI_lt (b := 7) c7 (by omega)) ?_
    refine tk_X v1 _ _ (fun t e ht => ?_) (fun hno => ?_)
    · subst e
      have t22 : t < 22 := by unfold tk_ok at ht; omega
      have Gn : pt_G n (c + 1) sy fi se l (pt_u tk c t) kd aa bb := by
        refine ⟨hn, by omega, ⟨bs, bf, be, bl, pt_uB bt (by omega), bk, ba, bbb⟩, hE, hV, hK, ?_⟩
        intro j hj
        by_cases e : j = c
        · subst e; rw [pt_us]; exact ht
        · rw [pt_un e]; exact hT j (by omega)
      refine br_f (by decide) ⟨hi, nm_r (pt_up tk t (by omega)) (nm_r (nI_1 c) ?_)⟩
      refine tk_Y (nI t) _ _ _ _ _ _ _ _ _ _ _ _ _ _ y7 (fun _ => ⟨hi, nm_r (pt_up tk t (by omega)) (nm_r (nI_1 c) ⟨rfl, rl_m Gn _ _ _ _ _ _ _ _⟩)⟩) (fun hno => absurd ht (hno t rfl))
    · refine br_t rfl ?_
      refine tk_Y v1 _ _ _ _ _ _ _ _ _ _ _ _ _ _ y7 (fun ⟨t, e, ht⟩ => absurd ht (hno t e)) (fun _ => ⟨rfl, rl_m G _ _ _ _ _ _ _ _⟩)
theorem i_vc_wipe {k : Nat} {u : SX} {v : SY} (I : i_Rel k u v) (hk : k + 3 ≤ 1536) : wpX_wipe (fun r u' => wpY_wipe (fun r' v' => r' = r ∧ i_Rel (k + 3) u' v') v) u := by
  obtain ⟨n, c, sy, fi, se, l, tk, kd, aa, bb, bd, vl, w, ct, fd, bd', kp, st, rfl, rfl, G⟩ := I
  obtain ⟨hn, hc, hB, hE, hV, hK, hT⟩ := G
  exact ⟨rfl, rl_m (c := 0) ⟨hn, by omega, hB, hE, hV, hK, fun j hj => absurd hj (Nat.not_lt_zero _)⟩ _ _ _ _ _ _ _ _⟩
theorem i_vc_matches {k : Nat} {u : SX} {v : SY} (I : i_Rel k u v) (hk : k + 3 ≤ 1536) : wpX_matches (fun r u' => wpY_matches (fun r' v' => r' = r ∧ i_Rel (k + 3) u' v') v) u := by
  obtain ⟨n, c, sy, fi, se, l, tk, kd, aa, bb, bd, vl, w, ct, fd, bd', kp, st, rfl, rfl, G⟩ := I
  unfold wpX_matches wpY_matches
  dsimp only
  have hc := G.2.1
  have bt := G.2.2.1.2.2.2.2.1
  have hT := G.2.2.2.2.2.2
  refine xw_whole hc bt _ _ _ _ _ _ _ _ (fun hW => ?_) (fun hW => ?_)
  · refine br_f (by decide) ⟨8000 + 1, xm_14 G hW _ (fun bd vl => ?_) 8000 0 bd vl (by omega)⟩
    refine yw_whole hc bt hT _ _ _ _ _ _ _ _ _ _ _ _ (fun _ => ?_) (fun z => absurd hW z)
    refine br_f (by decide) ?_
    exact ys_search G hW (-1) (-1) (ev_q n c sy fi se l tk) ys_Q1 _ _ _ _ _ _ _ (fun bd kp sa _ => ⟨rfl, rl_m G _ _ _ _ _ _ _ _⟩)
  · refine br_t rfl ?_
    refine yw_whole hc bt hT _ _ _ _ _ _ _ _ _ _ _ _ (fun z => absurd z hW) (fun _ => ?_)
    exact br_t rfl ⟨rfl, rl_m G _ _ _ _ _ _ _ _⟩
theorem i_vc_matchesAt {k : Nat} {u : SX} {v : SY} (I : i_Rel k u v) (hk : k + 3 ≤ 1536) (v1 : Int32) : wpX_matchesAt (fun r u' => wpY_matchesAt (fun r' v' => r' = r ∧ i_Rel (k + 3) u' v') v v1) u v1 := by
  obtain ⟨n, c, sy, fi, se, l, tk, kd, aa, bb, bd, vl, w, ct, fd, bd', kp, st, rfl, rfl, G⟩ := I
  unfold wpX_matchesAt wpY_matchesAt
  dsimp only
  have hn := G.1
  have hc := G.2.1
  have bl := G.2.2.1.2.2.2.1
  have bt := G.2.2.1.2.2.2.2.1
  have hT := G.2.2.2.2.2.2
  rcases ni_cs v1 hn with h | ⟨j, hj, rfl⟩
  · refine xi_no h ?_
    refine br_t rfl ?_
    refine yi_no h ?_
    refine br_t rfl ?_
    exact ⟨rfl, rl_m G _ _ _ _ _ _ _ _⟩
  · refine xi_yes hn hj ?_
    refine br_f (by decide) ?_
    refine xw_whole hc bt _ _ _ _ _ _ _ _ (fun hW => ?_) (fun hW => ?_)
    · refine br_f (by decide) ⟨8000 + 1, xm_24 G hW hj _ (fun bd vl => ?_) 8000 0 bd vl (by omega)⟩
      refine yi_yes hn hj ?_
      refine br_f (by decide) ?_
      refine yw_whole hc bt hT _ _ _ _ _ _ _ _ _ _ _ _ (fun _ => ?_) (fun z => absurd hW z)
      refine br_f (by decide) ⟨vp_in_nI (by omega) (by omega), ?_⟩
      rw [pt_at l (by omega)]
      exact ys_search G hW (-1) (nI (l j)) (ev_qa n c sy fi se l tk (l j)) (ys_Q2 bl j) _ _ _ _ _ _ _ (fun bd kp sa _ => ⟨rfl, rl_m G _ _ _ _ _ _ _ _⟩)
    · refine br_t rfl ?_
      refine yi_yes hn hj ?_
      refine br_f (by decide) ?_
      refine yw_whole hc bt hT _ _ _ _ _ _ _ _ _ _ _ _ (fun z => absurd z hW) (fun _ => ?_)
      exact br_t rfl ⟨rfl, rl_m G _ _ _ _ _ _ _ _⟩
theorem i_vc_binding {k : Nat} {u : SX} {v : SY} (I : i_Rel k u v) (hk : k + 3 ≤ 1536) (v1 : Int32) (v2 : Int32) : wpX_binding (fun r u' => wpY_binding (fun r' v' => r' = r ∧ i_Rel (k + 3) u' v') v v1 v2) u v1 v2 := by
  obtain ⟨n, c, sy, fi, se, l, tk, kd, aa, bb, bd, vl, w, ct, fd, bd', kp, st, rfl, rfl, G⟩ := I
  unfold wpX_binding wpY_binding
  dsimp only
  have hn := G.1
  have hc := G.2.1
  have bl := G.2.2.1.2.2.2.1
  have bt := G.2.2.1.2.2.2.2.1
  have hT := G.2.2.2.2.2.2
  by_cases n0 : v2 < 0
  · refine br_t (c := v2 < 0) n0 ?_
    refine br_t rfl ?_
    exact br_t n0 ⟨rfl, rl_m G _ _ _ _ _ _ _ _⟩
  · obtain ⟨v, hv, rfl⟩ := nI_of n0
    by_cases h3 : v < 3
    · have y2 : nI v ≤ 2 := nI_le (b := 2) (by omega) (by omega)
      refine xv_isVar (by omega) _ _ (fun _ => ?_) (fun z => absurd h3 z)
      refine br_f (by decide) ?_
      refine xw_whole hc bt _ _ _ _ _ _ _ _ (fun hW => ?_) (fun hW => ?_)
      · refine br_f (by decide) ?_
        refine xw_has hc bt _ _ _ _ _ _ _ (by omega) _ (fun hH => ?_) (fun hH => ?_)
        · have cl := pt_c_le (ev_q n c sy fi se l tk) 8000
          refine br_f (by decide) ⟨8000 + 1, xm_33 G hW v1 h3 _ (fun s hs hq e bd vl => ?_) (fun hno bd vl => ?_) 8000 0 bd vl (by omega) (fun j hj => absurd hj (Nat.not_lt_zero _))⟩
          · have l1 := pt_c_lt hs hq
            refine br_f n0 (br_t y2 ?_)
            refine yw_whole hc bt hT _ _ _ _ _ _ _ _ _ _ _ _ (fun _ => ?_) (fun z => absurd hW z)
            refine br_f (by decide) ?_
            refine yw_has hc bt _ _ _ _ _ _ _ _ _ _ _ (by omega) _ (fun _ => ?_) (fun z => absurd hH z)
            refine br_f (by decide) (br_t (by rw [← e]; exact nI_pos' (by omega)) ?_)
            refine ys_search G hW v1 (-1) (ev_q n c sy fi se l tk) ys_Q1 _ _ _ _ _ _ _ (fun bd kp sa hI => ?_)
            refine br_f (by rw [← e]; exact nI_ge l1 (by omega)) ⟨vp_in_nI h3 (by omega), ?_⟩
            refine ⟨?_, rl_m G _ _ _ _ _ _ _ _⟩
            rw [nI_clamp hv]
            exact hI s hs hq e v h3
          · refine br_f n0 (br_t y2 ?_)
            refine yw_whole hc bt hT _ _ _ _ _ _ _ _ _ _ _ _ (fun _ => ?_) (fun z => absurd hW z)
            refine br_f (by decide) ?_
            refine yw_has hc bt _ _ _ _ _ _ _ _ _ _ _ (by omega) _ (fun _ => ?_) (fun z => absurd hH z)
            refine br_f (by decide) (br_c (fun hp => ?_) (fun _ => ⟨rfl, rl_m G _ _ _ _ _ _ _ _⟩))
            refine ys_search G hW v1 (-1) (ev_q n c sy fi se l tk) ys_Q1 _ _ _ _ _ _ _ (fun bd kp sa hI => ?_)
            refine br_t ?_ ⟨rfl, rl_m G _ _ _ _ _ _ _ _⟩
            obtain ⟨m, hm, rfl⟩ := nI_of (Int32.not_lt.mpr hp)
            refine nI_le ?_ hm
            refine Nat.le_of_not_lt (fun hlt => ?_)
            obtain ⟨s, a, b, d⟩ := pt_c_ex 8000 m hlt
            exact hno s a b (by rw [d])
        · refine br_t rfl ?_
          refine br_f n0 (br_t y2 ?_)
          refine yw_whole hc bt hT _ _ _ _ _ _ _ _ _ _ _ _ (fun _ => ?_) (fun z => absurd hW z)
          refine br_f (by decide) ?_
          refine yw_has hc bt _ _ _ _ _ _ _ _ _ _ _ (by omega) _ (fun z => absurd z hH) (fun _ => ?_)
          exact br_t rfl ⟨rfl, rl_m G _ _ _ _ _ _ _ _⟩
      · refine br_t rfl ?_
        refine br_f n0 (br_t y2 ?_)
        refine yw_whole hc bt hT _ _ _ _ _ _ _ _ _ _ _ _ (fun z => absurd z hW) (fun _ => ?_)
        exact br_t rfl ⟨rfl, rl_m G _ _ _ _ _ _ _ _⟩
    · have x3 : (3 : Int32) ≤ nI v := nI_le (a := 3) (by omega) (by omega)
      refine br_f (c := nI v < 0) n0 (br_t x3 ?_)
      refine br_t rfl ?_
      exact br_f n0 (br_f (nI_ge (a := 2) (by omega) hv) ⟨rfl, rl_m G _ _ _ _ _ _ _ _⟩)
theorem i_vc_clear {k : Nat} {u : SX} {v : SY} (I : i_Rel k u v) (hk : k + 3 ≤ 1536) : wpX_clear (fun r u' => wpY_clear (fun r' v' => r' = r ∧ i_Rel (k + 3) u' v') v) u := by
  obtain ⟨n, c, sy, fi, se, l, tk, kd, aa, bb, bd, vl, w, ct, fd, bd', kp, st, rfl, rfl, G⟩ := I
  obtain ⟨hn, hc, hB, hE, hV, hK, hT⟩ := G
  exact ⟨rfl, rl_m (n := 0) ⟨by omega, hc, hB, ⟨fun j hj => absurd hj (Nat.not_lt_zero _), fun i j hj => absurd hj (Nat.not_lt_zero _)⟩, fun j hj => absurd hj (Nat.not_lt_zero _), fun i j hj => absurd hj (Nat.not_lt_zero _), hT⟩ _ _ _ _ _ _ _ _⟩
