section
variable {y_workIn y_used y_items y_length y_size y_printed : Int32} {b_out b_outLen b_inLen b_work b_doc b_result b_print : Nat → Int32}
variable {inn : Nat → Nat} {g : Nat → List Nat}
theorem td_ypg2 {post : SY → Prop} {s G p e : Nat} (hs : s < 4) (hG : td_SG inn g) (hY : td_SY inn g b_out b_outLen b_inLen) (hGb : G ≤ 41) (hpe : p ≤ e) (hen : e ≤ (g s).length) (hg : ∀ i, i < (g s).length → ((td_gt (g s) i < 10 ∧ td_ga (td_gt (g s)) i = G) ↔ (p ≤ i ∧ i < e))) : ∀ n i R pr, i ≤ (g s).length → (g s).length - i < n → R.length + (e - max i p) ≤ 80 → td_dY R pr → (∀ pr', td_dY (R ++ td_rg (fun _ => 3) (max i p) (e - max i p)) pr' → post (y_workIn, y_used, y_items, y_length, y_size, nI (R ++ td_rg (fun _ => 3) (max i p) (e - max i p)).length, b_out, b_outLen, b_inLen, b_work, b_doc, b_result, pr')) → wY_printGap_2 post (nI s) (nI G) y_workIn y_used y_items y_length y_size n (nI i) (nI R.length) b_out b_outLen b_inLen b_work b_doc b_result pr := by
  have hL := (hG s hs).2.1
  intro n
  induction n with
  | zero => intro i R pr _ h; exact absurd h (Nat.not_lt_zero _)
  | succ n ih =>
    intro i R pr hi hn hl hd hp
    refine ⟨td_s4 hs, pk_le (g s).length i (fun h => ?_) (fun h => ⟨td_cI hG hs h, ?_⟩) (td_oY hY hs)⟩
    · rw [show e - max i p = 0 from by omega, show td_rg (fun _ => 3) (max i p) 0 = [] from rfl, List.append_nil] at hp
      exact hp pr hd
    · have h60 := td_g60 hG hs h
      have h41 := td_ga50 hs hG (p := i) (by omega)
      have skip : ¬ (p ≤ i ∧ i < e) → wY_printGap_2 post (nI s) (nI G) y_workIn y_used y_items y_length y_size n (nI (i + 1)) (nI R.length) b_out b_outLen b_inLen b_work b_doc b_result pr := by
        intro z
        refine ih (i + 1) R pr (by omega) (by omega) (by omega) hd ?_
        by_cases y : i < p
        · rw [show max (i + 1) p = max i p from by omega]; exact hp
        · rw [show e - max (i + 1) p = 0 from by omega]
          rw [show e - max i p = 0 from by omega] at hp
          exact hp
      refine pk_le 10 (td_gt (g s) i) (fun z => nm_r (nI_1 _) (skip (fun y => by have := (hg i h).mpr y; omega))) (fun z => td_ygap hs hG hY (by omega) ?_) rfl (td_cY hY hG hs h)
      refine pk_eq (td_ga (td_gt (g s)) i) G (fun y => ?_) (fun y => nm_r (nI_1 _) (skip (fun w => y ((hg i h).mpr w).2)))
      have hr := (hg i h).mp ⟨z, y⟩
      rw [show max i p = i from by omega, td_rg_step R (fun _ => 3) hr.2] at hp
      refine ⟨vp_in_nI (by omega) (by decide), nm_r (e' := upd pr R.length (nI 3)) (by rw [nI_clamp (by omega)]; rfl) (nm_r (nI_1 _) (nm_r (nI_1 _) ?_))⟩
      rw [← td_len1 (x := 3)]
      refine ih (i + 1) (R ++ [3]) _ (by omega) (by omega) (by rw [td_len1]; omega) (td_dYp hd) ?_
      rw [show max (i + 1) p = i + 1 from by omega]
      exact hp
theorem td_ypg {post : SY → Prop} {s G p e : Nat} {R : List Nat} {pr : Nat → Int32} (hs : s < 4) (hG : td_SG inn g) (hY : td_SY inn g b_out b_outLen b_inLen) (hGb : G ≤ 41) (hpe : p ≤ e) (hen : e ≤ (g s).length) (hg : ∀ i, i < (g s).length → ((td_gt (g s) i < 10 ∧ td_ga (td_gt (g s)) i = G) ↔ (p ≤ i ∧ i < e))) (hl : R.length + (e - p) ≤ 80) (hd : td_dY R pr) (hp : ∀ pr', td_dY (R ++ td_rg (fun _ => 3) p (e - p)) pr' → post (y_workIn, y_used, y_items, y_length, y_size, nI (R ++ td_rg (fun _ => 3) p (e - p)).length, b_out, b_outLen, b_inLen, b_work, b_doc, b_result, pr')) : wpY_printGap post (y_workIn, y_used, y_items, y_length, y_size, nI R.length, b_out, b_outLen, b_inLen, b_work, b_doc, b_result, pr) (nI s) (nI G) :=
  ⟨(g s).length + 1, td_ypg2 hs hG hY hGb hpe hen hg _ 0 R pr (Nat.zero_le _) (by omega) (by rw [show max 0 p = p from by omega]; exact hl) hd (by rw [show max 0 p = p from by omega]; exact hp)⟩
theorem td_y45 {post : SY → Prop} {J : Int32 → Int32 → Int32 → Int32 → Int32 → Int32 → Int32 → (Nat → Int32) → (Nat → Int32) → (Nat → Int32) → (Nat → Int32) → (Nat → Int32) → (Nat → Int32) → (Nat → Int32) → Prop} {s G p e k : Nat} {R : List Nat} {pr : Nat → Int32} {z0 : Int32} (hs : s < 4) (hG : td_SG inn g) (hY : td_SY inn g b_out b_outLen b_inLen) (hGb : G ≤ 40) (hpe : p ≤ e) (hen : e ≤ (g s).length) (hg : ∀ i, i < (g s).length → ((td_gt (g s) i < 10 ∧ td_ga (td_gt (g s)) i = G + 1) ↔ (p ≤ i ∧ i < e))) (hz : z0 = nI k) (hl : R.length + 1 + (e - p) ≤ 80) (hd : td_dY R pr) (hp : ∀ pr', td_dY ((R ++ [k]) ++ td_rg (fun _ => 3) p (e - p)) pr' → J (nI (G + 1)) y_workIn y_used y_items y_length y_size (nI ((R ++ [k]) ++ td_rg (fun _ => 3) p (e - p)).length) b_out b_outLen b_inLen b_work b_doc b_result pr') : wY_print_45 post J (nI s) (nI G) z0 (nI R.length) y_workIn y_used y_items y_length y_size (nI R.length) b_out b_outLen b_inLen b_work b_doc b_result pr := by
  subst hz
  refine ⟨vp_in_nI (by omega) (by decide), nm_r (e' := upd pr R.length (nI k)) (by rw [nI_clamp (by omega)]) (nm_r (nI_1 _) ?_)⟩
  rw [nI_1 G, ← td_len1 (x := k)]
  exact td_ypg hs hG hY (by omega) hpe hen hg (by rw [td_len1]; omega) (td_dYp hd) (fun pr' hd' => nm_e (hp pr' hd'))
theorem td_yprloop {post : SY → Prop} {s : Nat} (hs : s < 4) (hG : td_SG inn g) (hY : td_SY inn g b_out b_outLen b_inLen) : ∀ d G p R pr, G + d = inn s → td_At (td_gt (g s)) (g s).length G p → R.length ≤ G + p → td_dY R pr → (∀ pr', td_dY (td_P (g s) d G p R) pr' → post (y_workIn, y_used, y_items, y_length, y_size, nI (td_P (g s) d G p R).length, b_out, b_outLen, b_inLen, b_work, b_doc, b_result, pr')) → wY_print_13 post (nI s) (d + 1) (nI G) y_workIn y_used y_items y_length y_size (nI R.length) b_out b_outLen b_inLen b_work b_doc b_result pr := by
  have hm4 := (hG s hs).1
  have hL := (hG s hs).2.1
  have hi : td_inc (td_gt (g s)) (g s).length := fun i j h1 h2 h3 => (hG s hs).2.2.2 i j h1 h2 h3
  intro d
  induction d with
  | zero =>
    intro G p R pr h1 hA hl hd hp
    exact ⟨td_s4 hs, pk_le (inn s) G (fun _ => hp pr hd) (fun z => absurd z (by omega)) (td_nY hY hs)⟩
  | succ d ih =>
    intro G p R pr h1 hA hl hd hp
    have nB := td_nxBe hi hA
    have nA := td_nxAt hi hA
    have nA1 := nA.1
    have eP := td_eP nB.1
    have e1 := eP.1
    have e2 := td_nxp (L := g s) (G := G) (p := p)
    have p1 := hA.1
    have gg := td_gap hi nB eP
    have hp2 : ∀ pr', td_dY (td_P (g s) d (G + 1) (td_e (g s) (td_nx (g s) G p)) ((R ++ [if p < (g s).length ∧ td_gt (g s) p = 10 + G then 1 else 2]) ++ td_rg (fun _ => 3) (td_nx (g s) G p) (td_e (g s) (td_nx (g s) G p) - td_nx (g s) G p))) pr' → post (y_workIn, y_used, y_items, y_length, y_size, nI (td_P (g s) d (G + 1) (td_e (g s) (td_nx (g s) G p)) ((R ++ [if p < (g s).length ∧ td_gt (g s) p = 10 + G then 1 else 2]) ++ td_rg (fun _ => 3) (td_nx (g s) G p) (td_e (g s) (td_nx (g s) G p) - td_nx (g s) G p))).length, b_out, b_outLen, b_inLen, b_work, b_doc, b_result, pr') := hp
    refine ⟨td_s4 hs, pk_le (inn s) G (fun z => absurd z (by omega)) (fun _ => ?_) (td_nY hY hs)⟩
    by_cases k : p < (g s).length ∧ td_gt (g s) p = 10 + G
    · rw [if_pos k] at hp2
      refine td_yplK hs hG hY (by omega) k.1 k.2 (td_plK hi hA k.2) (br_f (nI_pos (by omega)) ?_)
      exact td_y45 (k := 1) hs hG hY (by omega) e1 nA1 gg rfl (by omega) hd (fun pr' hd' => ih (G + 1) _ _ pr' (by omega) nA (by rw [List.length_append, td_rg_len, td_len1]; omega) hd' hp2)
    · rw [if_neg k] at hp2
      refine td_yplD hs hG hY (by omega) (td_plD hi hA k) (br_t td_m1neg ?_)
      exact td_y45 (k := 2) hs hG hY (by omega) e1 nA1 gg rfl (by omega) hd (fun pr' hd' => ih (G + 1) _ _ pr' (by omega) nA (by rw [List.length_append, td_rg_len, td_len1]; omega) hd' hp2)
theorem td_yprint {post : SY → Prop} {s : Nat} (hs : s < 4) (hG : td_SG inn g) (hY : td_SY inn g b_out b_outLen b_inLen) (hp : ∀ pr', td_dY (td_st (g s) (inn s)) pr' → post (y_workIn, y_used, y_items, y_length, y_size, nI (td_st (g s) (inn s)).length, b_out, b_outLen, b_inLen, b_work, b_doc, b_result, pr')) : wpY_print post (y_workIn, y_used, y_items, y_length, y_size, y_printed, b_out, b_outLen, b_inLen, b_work, b_doc, b_result, b_print) (nI s) := by
  have hm4 := (hG s hs).1
  have hL := (hG s hs).2.1
  have hi : td_inc (td_gt (g s)) (g s).length := fun i j h1 h2 h3 => (hG s hs).2.2.2 i j h1 h2 h3
  have eP := td_eP (L := g s) (p := 0) (Nat.zero_le _)
  have e := eP.2.1
  refine td_ypg (p := 0) (G := 0) (R := []) hs hG hY (by omega) eP.1 eP.2.1 (td_gap hi (td_Be0 _ _) eP) (by show 0 + _ ≤ 80; omega) (td_dY0 _) (fun pr' hd' => ⟨inn s + 1, ?_⟩)
  exact td_yprloop hs hG hY (inn s) 0 _ _ pr' (by omega) td_At0 (by rw [List.length_append, td_rg_len]; show 0 + _ ≤ _; omega) hd' hp
/-! counting the runs -/
theorem td_ycount {post : Int32 → SY → Prop} {R : List Nat} (hR : R.length ≤ 80) (hs : td_sm R) (hd : td_dY R b_print) (hp : post (nI (td_cc (td_gt R) R.length).1) (y_workIn, y_used, y_items, y_length, y_size, nI R.length, b_out, b_outLen, b_inLen, b_work, b_doc, b_result, b_print)) : ∀ n p, p ≤ R.length → R.length - p < n → wY_runs_19 post y_workIn y_used y_items y_length y_size (nI R.length) b_out b_outLen b_inLen b_work b_doc b_result b_print n (nI (td_cc (td_gt R) p).1) (nI p) := by
  intro n
  induction n with
  | zero => intro p _ h; exact absurd h (Nat.not_lt_zero _)
  | succ n ih =>
    intro p hi hn
    refine pk_le R.length p (fun h => ?_) (fun h => ?_)
    · rw [show p = R.length from by omega]; exact hp
    · have hi2 := ih (p + 1) (by omega) (by omega)
      have s1 := hs p h
      refine pk_eq p 0 (fun z => nm_r (nI_1 _) (nm_r (nI_1 _) ?_)) (fun z => ?_)
      · rw [td_ccN (by omega)] at hi2
        exact hi2
      · have s2 := hs (p - 1) (by omega)
        rw [td_p1 (by omega)]
        refine ⟨vp_in_nI (by omega) (by decide), vp_in_nI (by omega) (by decide), ?_⟩
        rw [nI_clamp (by omega), nI_clamp (by omega), hd p h, hd (p - 1) (by omega)]
        refine pk_eq (td_gt R p) (td_gt R (p - 1)) (fun w => nm_r (nI_1 _) ?_) (fun w => nm_r (nI_1 _) (nm_r (nI_1 _) ?_))
        · rw [td_ccS ⟨by omega, w⟩] at hi2
          exact hi2
        · rw [td_ccN (fun y => w y.2)] at hi2
          exact hi2
/-! one run -/
theorem td_yrunS {post : Int32 → SY → Prop} {R : List Nat} {x x4 x5 : Int32} {n p : Nat} (hR : R.length ≤ 80) (hs : td_sm R) (hd : td_dY R b_print) (h : p < R.length) (h62 : wY_run_62 post (wY_run_26 post x y_workIn y_used y_items y_length y_size (nI R.length) b_out b_outLen b_inLen b_work b_doc b_result b_print n) x (nI ((td_cc (td_gt R) (p + 1)).1 - 1)) x4 x5 (nI p) y_workIn y_used y_items y_length y_size (nI R.length) b_out b_outLen b_inLen b_work b_doc b_result b_print) : wY_run_26 post x y_workIn y_used y_items y_length y_size (nI R.length) b_out b_outLen b_inLen b_work b_doc b_result b_print (n + 1) (nI (td_cc (td_gt R) p).1 - 1) x4 x5 (nI p) := by
  have s1 := hs p h
  obtain ⟨c1, c2, c3⟩ := td_ccP (st := td_gt R) p (fun i hi => hs i (by omega))
  have e1 : nI (td_cc (td_gt R) p).1 - 1 + 1 = nI (td_cc (td_gt R) p).1 := Int32.sub_add_cancel _ _
  refine pk_le R.length p (fun z => absurd z (by omega)) (fun _ => ?_)
  refine pk_eq p 0 (fun z => nm_r e1 ?_) (fun z => ?_)
  · rw [td_ccN (by omega)] at h62
    exact h62
  · have s2 := hs (p - 1) (by omega)
    rw [td_p1 (p := p) (by omega)]
    refine ⟨vp_in_nI (by omega) (by decide), vp_in_nI (by omega) (by decide), ?_⟩
    rw [nI_clamp (by omega), nI_clamp (by omega), hd p h, hd (p - 1) (by omega)]
    refine pk_eq (td_gt R p) (td_gt R (p - 1)) (fun w => ?_) (fun w => nm_r e1 ?_)
    · rw [td_ccS ⟨by omega, w⟩] at h62
      rw [td_p1 (c2 (by omega)).1]
      exact h62
    · rw [td_ccN (fun y => w y.2)] at h62
      exact h62
theorem td_yrunN {post : Int32 → SY → Prop} {R : List Nat} {x : Int32} (hR : R.length ≤ 80) (hs : td_sm R) (hd : td_dY R b_print) (hx : x < 0) (hp : post (-4) (y_workIn, y_used, y_items, y_length, y_size, nI R.length, b_out, b_outLen, b_inLen, b_work, b_doc, b_result, b_print)) : ∀ n p x4, p ≤ R.length → R.length - p < n → wY_run_26 post x y_workIn y_used y_items y_length y_size (nI R.length) b_out b_outLen b_inLen b_work b_doc b_result b_print n (nI (td_cc (td_gt R) p).1 - 1) x4 0 (nI p) := by
  intro n
  induction n with
  | zero => intro p x4 _ h; exact absurd h (Nat.not_lt_zero _)
  | succ n ih =>
    intro p x4 hi hn
    by_cases h : p < R.length
    · refine td_yrunS hR hs hd h ?_
      obtain ⟨c1, c2, c3⟩ := td_ccP (st := td_gt R) (p + 1) (fun i hi => hs i (by omega))
      have hne : ¬ nI ((td_cc (td_gt R) (p + 1)).1 - 1) = x := by
        intro e
        rw [← e] at hx
        exact nI_pos (by omega) hx
      refine br_f hne (nm_r (nI_1 _) ?_)
      have := ih (p + 1) x4 (by omega) (by omega)
      rw [td_p1 (c2 (by omega)).1] at this
      exact this
    · exact pk_le R.length p (fun _ => br_t rfl hp) (fun z => absurd z h)
theorem td_yrun {post : Int32 → SY → Prop} {R : List Nat} {j : Nat} (hR : R.length ≤ 80) (hs : td_sm R) (hd : td_dY R b_print) (hj : j < 2 ^ 31) (h1 : j < (td_cc (td_gt R) R.length).1 → post (nI ((td_cc (td_gt R) R.length).2.1 j) + 4 * nI ((td_cc (td_gt R) R.length).2.2 j)) (y_workIn, y_used, y_items, y_length, y_size, nI R.length, b_out, b_outLen, b_inLen, b_work, b_doc, b_result, b_print)) (h2 : (td_cc (td_gt R) R.length).1 ≤ j → post (-4) (y_workIn, y_used, y_items, y_length, y_size, nI R.length, b_out, b_outLen, b_inLen, b_work, b_doc, b_result, b_print)) : ∀ n p x4 x5, p ≤ R.length → R.length - p < n → (j < (td_cc (td_gt R) p).1 → x4 = nI ((td_cc (td_gt R) p).2.1 j) ∧ x5 = nI ((td_cc (td_gt R) p).2.2 j)) → ((td_cc (td_gt R) p).1 ≤ j → x5 = 0) → wY_run_26 post (nI j) y_workIn y_used y_items y_length y_size (nI R.length) b_out b_outLen b_inLen b_work b_doc b_result b_print n (nI (td_cc (td_gt R) p).1 - 1) x4 x5 (nI p) := by
  intro n
  induction n with
  | zero => intro p x4 x5 _ h; exact absurd h (Nat.not_lt_zero _)
  | succ n ih =>
    intro p x4 x5 hi hn k1 k2
    by_cases h : p < R.length
    · refine td_yrunS hR hs hd h ?_
      obtain ⟨c1, c2, c3⟩ := td_ccP (st := td_gt R) (p + 1) (fun i hi => hs i (by omega))
      obtain ⟨b1, b2, b3⟩ := td_ccP (st := td_gt R) p (fun i hi => hs i (by omega))
      have cpos := (c2 (by omega)).1
      have ih' := fun x4 x5 => ih (p + 1) x4 x5 (by omega) (by omega)
      rw [td_p1 cpos] at ih'
      refine pk_eq ((td_cc (td_gt R) (p + 1)).1 - 1) j (fun e => ⟨vp_in_nI (by omega) (by decide), nm_r (e' := nI (td_gt R p)) (by rw [nI_clamp (by omega), hd p h]) (nm_e (nm_r (nI_1 _) (ih' _ _ (fun z => ?_) (fun z => absurd z (by omega)))))⟩) (fun e => nm_r (nI_1 _) (ih' _ _ (fun z => ?_) (fun z => ?_)))
      · by_cases w : 0 < p ∧ td_gt R p = td_gt R (p - 1)
        · rw [td_ccS w] at e ⊢
          have e' : (td_cc (td_gt R) p).1 - 1 = j := e
          obtain ⟨d1, d2⟩ := b2 w.1
          obtain ⟨q1, q2⟩ := k1 (by omega)
          refine ⟨?_, ?_⟩
          · show nI (td_gt R p) = nI ((td_cc (td_gt R) p).2.1 j)
            rw [← e', d2, w.2]
          · show x5 + 1 = nI (if j = (td_cc (td_gt R) p).1 - 1 then (td_cc (td_gt R) p).2.2 j + 1 else (td_cc (td_gt R) p).2.2 j)
            rw [if_pos e'.symm, q2, nI_1]
        · rw [td_ccN w] at e ⊢
          have e' : (td_cc (td_gt R) p).1 + 1 - 1 = j := e
          have e'' : j = (td_cc (td_gt R) p).1 := by omega
          refine ⟨?_, ?_⟩
          · show nI (td_gt R p) = nI (if j = (td_cc (td_gt R) p).1 then td_gt R p else (td_cc (td_gt R) p).2.1 j)
            rw [if_pos e'']
          · show x5 + 1 = nI (if j = (td_cc (td_gt R) p).1 then 1 else (td_cc (td_gt R) p).2.2 j)
            rw [if_pos e'', k2 (by omega)]
            rfl
      · by_cases w : 0 < p ∧ td_gt R p = td_gt R (p - 1)
        · rw [td_ccS w] at e z ⊢
          have e' : (td_cc (td_gt R) p).1 - 1 ≠ j := e
          have z' : j < (td_cc (td_gt R) p).1 := z
          obtain ⟨q1, q2⟩ := k1 z'
          refine ⟨q1, ?_⟩
          show x5 = nI (if j = (td_cc (td_gt R) p).1 - 1 then (td_cc (td_gt R) p).2.2 j + 1 else (td_cc (td_gt R) p).2.2 j)
          rw [if_neg (fun y => e' y.symm)]
          exact q2
        · rw [td_ccN w] at e z ⊢
          have e' : (td_cc (td_gt R) p).1 + 1 - 1 ≠ j := e
          have z' : j < (td_cc (td_gt R) p).1 + 1 := z
          have e'' : ¬ j = (td_cc (td_gt R) p).1 := by omega
          obtain ⟨q1, q2⟩ := k1 (by omega)
          refine ⟨?_, ?_⟩
          · show x4 = nI (if j = (td_cc (td_gt R) p).1 then td_gt R p else (td_cc (td_gt R) p).2.1 j)
            rw [if_neg e'']; exact q1
          · show x5 = nI (if j = (td_cc (td_gt R) p).1 then 1 else (td_cc (td_gt R) p).2.2 j)
            rw [if_neg e'']; exact q2
      · refine k2 ?_
        by_cases w : 0 < p ∧ td_gt R p = td_gt R (p - 1)
        · rw [td_ccS w] at z; exact z
        · rw [td_ccN w] at z
          have z' : (td_cc (td_gt R) p).1 + 1 ≤ j := z
          omega
    · have hpe : p = R.length := by omega
      rw [hpe] at k1 k2
      obtain ⟨b1, b2, b3⟩ := td_ccP (st := td_gt R) R.length hs
      refine pk_le R.length p (fun _ => ?_) (fun z => absurd z h)
      by_cases w : j < (td_cc (td_gt R) R.length).1
      · obtain ⟨q1, q2⟩ := k1 w
        obtain ⟨r1, r2, r3⟩ := b3 j w
        rw [q1, q2]
        exact br_f (nI_ne0 (by omega) (by omega)) (h1 w)
      · exact br_t (k2 (by omega)) (h2 (by omega))
end
