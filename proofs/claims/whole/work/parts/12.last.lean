theorem i_vc_runs {k : Nat} {u : SX} {v : SY} (I : i_Rel k u v) (hk : k + 5 ≤ 2560) (v1 : Int32) : wpX_runs (fun r u' => wpY_runs (fun r' v' => r' = r ∧ i_Rel (k + 5) u' v') v v1) u v1 := by
  obtain ⟨f_workIn, f_workOut, f_workUsed, f_documentLength, f_draftLength, f_runCount, a_slotItems, a_slotIn, a_slotOut, a_workItems, a_document, a_draft, a_draftDocument, a_runKinds, a_runLengths⟩ := u
  obtain ⟨y_workIn, y_used, y_items, y_length, y_size, y_printed, b_out, b_outLen, b_inLen, b_work, b_doc, b_result, b_print⟩ := v
  have I2 := I
  obtain ⟨wi, us, wk, dc, inn, g, hK, hG, ⟨rfl, rfl, rfl, rfl, hX, hw, hd⟩, rfl, rfl, rfl, rfl, hY, hw2, hd2⟩ := I
  unfold wpX_runs wpY_runs
  rcases td_slot v1 with ⟨s, hs, rfl⟩ | ⟨hx, hy⟩
  · obtain ⟨p1, p2⟩ := td_stp hs hG
    refine td_xs1 hs (br_f td_10ne (td_xlist hs hG hX (fun rc rk rl hr => ?_)))
    refine td_ys1 hs (br_f td_10ne (td_yprint hs hG hY (fun pr hpr => ⟨(td_st (g s) (inn s)).length + 1, ?_⟩)))
    refine td_ycount p2 p1 hpr ⟨hr.1.symm, ?_⟩ _ 0 (Nat.zero_le _) (by omega)
    exact td_mk hK hG hX hw hd hY hw2 hd2
  · exact hx _ (br_t rfl (hy _ _ (br_t rfl ⟨rfl, I2⟩)))
theorem i_vc_run {k : Nat} {u : SX} {v : SY} (I : i_Rel k u v) (hk : k + 5 ≤ 2560) (v1 : Int32) (v2 : Int32) : wpX_run (fun r u' => wpY_run (fun r' v' => r' = r ∧ i_Rel (k + 5) u' v') v v1 v2) u v1 v2 := by
  obtain ⟨f_workIn, f_workOut, f_workUsed, f_documentLength, f_draftLength, f_runCount, a_slotItems, a_slotIn, a_slotOut, a_workItems, a_document, a_draft, a_draftDocument, a_runKinds, a_runLengths⟩ := u
  obtain ⟨y_workIn, y_used, y_items, y_length, y_size, y_printed, b_out, b_outLen, b_inLen, b_work, b_doc, b_result, b_print⟩ := v
  have I2 := I
  obtain ⟨wi, us, wk, dc, inn, g, hK, hG, ⟨rfl, rfl, rfl, rfl, hX, hw, hd⟩, rfl, rfl, rfl, rfl, hY, hw2, hd2⟩ := I
  unfold wpX_run wpY_run
  rcases td_slot v1 with ⟨s, hs, rfl⟩ | ⟨hx, hy⟩
  · obtain ⟨p1, p2⟩ := td_stp hs hG
    obtain ⟨c1, c2, c3⟩ := td_ccP (st := td_gt (td_st (g s) (inn s))) _ p1
    refine td_xs1 hs (br_f td_10ne (td_xlist hs hG hX (fun rc rk rl hr => ?_)))
    obtain ⟨rfl, hr⟩ := hr
    by_cases h0 : v2 < 0
    · refine br_t h0 (td_ys1 hs (br_f td_10ne (td_yprint hs hG hY (fun pr hpr => ⟨(td_st (g s) (inn s)).length + 1, ?_⟩))))
      exact td_yrunN p2 p1 hpr h0 ⟨rfl, td_mk hK hG hX hw hd hY hw2 hd2⟩ _ 0 _ (Nat.zero_le _) (by omega)
    · obtain ⟨j, hj, rfl⟩ := nI_of h0
      refine br_f h0 (pk_lt j (td_cc (td_gt (td_st (g s) (inn s))) (td_st (g s) (inn s)).length).1 (fun h => ⟨vp_in_nI (by omega) (by decide), vp_in_nI (by omega) (by decide), ?_⟩) (fun h => ?_))
      · rw [nI_clamp hj, (hr j h).1, (hr j h).2]
        refine td_ys1 hs (br_f td_10ne (td_yprint hs hG hY (fun pr hpr => ⟨(td_st (g s) (inn s)).length + 1, ?_⟩)))
        exact td_yrun p2 p1 hpr hj (fun _ => ⟨rfl, td_mk hK hG hX hw hd hY hw2 hd2⟩) (fun z => absurd h (by omega)) _ 0 _ _ (Nat.zero_le _) (by omega) (fun z => absurd z (Nat.not_lt_zero _)) (fun _ => rfl)
      · refine td_ys1 hs (br_f td_10ne (td_yprint hs hG hY (fun pr hpr => ⟨(td_st (g s) (inn s)).length + 1, ?_⟩)))
        exact td_yrun p2 p1 hpr hj (fun z => absurd h (by omega)) (fun _ => ⟨rfl, td_mk hK hG hX hw hd hY hw2 hd2⟩) _ 0 _ _ (Nat.zero_le _) (by omega) (fun z => absurd z (Nat.not_lt_zero _)) (fun _ => rfl)
  · exact hx _ (br_t rfl (hy _ _ (br_t rfl ⟨rfl, I2⟩)))
