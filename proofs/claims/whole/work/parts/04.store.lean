section
variable {f_workIn f_workOut f_workUsed f_documentLength f_draftLength f_runCount : Int32} {a_slotItems a_slotIn a_slotOut a_workItems a_document a_draft a_draftDocument a_runKinds a_runLengths : Nat → Int32}
variable {y_workIn y_used y_items y_length y_size y_printed : Int32} {b_out b_outLen b_inLen b_work b_doc b_result b_print : Nat → Int32}
variable {inn : Nat → Nat} {g : Nat → List Nat}
/-! one item drafted, one emitted -/
theorem td_xitem {post : SX → Prop} {R : List Nat} {t : Nat} {x : Int32} {dr : Nat → Int32} (hd : td_dX R dr) (hx : x = nI (td_cx t)) (hp : ∀ dr', td_dX (R ++ [t]) dr' → post (f_workIn, f_workOut, f_workUsed, f_documentLength, nI (min 41 (R ++ [t]).length), f_runCount, a_slotItems, a_slotIn, a_slotOut, a_workItems, a_document, dr', a_draftDocument, a_runKinds, a_runLengths)) : wpX_draftItem post (f_workIn, f_workOut, f_workUsed, f_documentLength, nI (min 41 R.length), f_runCount, a_slotItems, a_slotIn, a_slotOut, a_workItems, a_document, dr, a_draftDocument, a_runKinds, a_runLengths) x := by
  subst hx
  refine pk_le 41 (min 41 R.length) (fun h => ?_) (fun h => ⟨vp_in_nI h (by decide), nm_r (e' := upd dr R.length (nI (td_cx t))) ?_ (nm_r (nI_1 _) ?_)⟩)
  · have := hp dr (td_dXf hd (by omega))
    rw [td_len1, show min 41 (R.length + 1) = min 41 R.length from by omega] at this
    exact this
  · rw [nI_clamp (by omega), show min 41 R.length = R.length from by omega]
  · have := hp _ (td_dXp hd)
    rw [td_len1, show min 41 (R.length + 1) = min 41 R.length + 1 from by omega] at this
    exact this
theorem td_yemit {post : SY → Prop} {R : List Nat} {t : Nat} {x : Int32} {re : Nat → Int32} (hd : td_dY R re) (hR : R.length < 80) (hx : x = nI t) (hp : ∀ re', td_dY (R ++ [t]) re' → post (y_workIn, y_used, y_items, y_length, nI (R ++ [t]).length, y_printed, b_out, b_outLen, b_inLen, b_work, b_doc, re', b_print)) : wpY_emit post (y_workIn, y_used, y_items, y_length, nI R.length, y_printed, b_out, b_outLen, b_inLen, b_work, b_doc, re, b_print) x := by
  subst hx
  refine ⟨vp_in_nI hR (by decide), nm_r (e' := upd re R.length (nI t)) (by rw [nI_clamp (by omega)]) (nm_r (nI_1 _) ?_)⟩
  have := hp _ (td_dYp hd)
  rw [td_len1] at this
  exact this
/-! storeDraft, put -/
theorem td_xstore2 {post : Int32 → SX → Prop} {to m : Nat} {R : List Nat} (hto : to < 4) (hR : R.length ≤ 40) (hG : td_SG inn g) (hd : td_dX R a_draft) (h2 : ∀ s, s < 4 → a_slotIn s = nI (inn s)) (h3 : ∀ s, s < 4 → a_slotOut s = nI (g s).length) (hp : ∀ si sn so, td_SX (td_uN inn to m) (td_uL g to R) si sn so → post (nI R.length) (f_workIn, f_workOut, f_workUsed, f_documentLength, nI R.length, f_runCount, si, sn, so, a_workItems, a_document, a_draft, a_draftDocument, a_runKinds, a_runLengths)) : ∀ n i si, i ≤ R.length → R.length - i < n → (∀ s j, s < 4 → s ≠ to → j < (g s).length → si (s * 40 + j) = nI (td_cx (td_gt (g s) j))) → (∀ j, j < i → si (to * 40 + j) = nI (td_cx (td_gt R j))) → wX_storeDraft_2 post (nI to) (nI m) f_workIn f_workOut f_workUsed f_documentLength (nI R.length) f_runCount n (nI i) si a_slotIn a_slotOut a_workItems a_document a_draft a_draftDocument a_runKinds a_runLengths := by
  intro n
  induction n with
  | zero => intro i si _ h; exact absurd h (Nat.not_lt_zero _)
  | succ n ih =>
    intro i si hi hn e1 e2
    refine pk_le R.length i (fun h => ?_) (fun h => ?_)
    · refine ⟨td_s4 hto, nm_e ⟨td_s4 hto, nm_e (hp _ _ _ ⟨fun s j hs hj => ?_, fun s hs => ?_, fun s hs => ?_⟩)⟩⟩
      · by_cases z : s = to
        · subst z
          rw [td_uL_s] at hj ⊢
          exact e2 j (by omega)
        · rw [td_uL_n z] at hj ⊢
          exact e1 s j hs z hj
      · rw [nI_clamp (by omega)]
        by_cases z : s = to
        · subst z; rw [td_uN_s, pk_us]
        · rw [td_uN_n z, pk_un z]; exact h2 s hs
      · rw [nI_clamp (by omega)]
        by_cases z : s = to
        · subst z; rw [td_uL_s, pk_us]
        · rw [td_uL_n z, pk_un z]; exact h3 s hs
    · refine ⟨vp_in_nI (by omega) (by decide), pk_in (to * 40 + i) 160 (by omega) (td_ix _ _), nm_r (e' := upd si (to * 40 + i) (nI (td_cx (td_gt R i)))) (by rw [td_ix, nI_clamp (by omega), nI_clamp (by omega), hd i h (by omega)]) (nm_r (nI_1 _) (ih (i + 1) _ (by omega) (by omega) (fun s j hs z hj => ?_) (fun j hj => ?_)))⟩
      · have := (hG s hs).2.1
        rw [pk_un (by omega)]
        exact e1 s j hs z hj
      · by_cases z : j = i
        · subst z; rw [pk_us]
        · rw [pk_un (by omega)]; exact e2 j (by omega)
theorem td_xstore {post : Int32 → SX → Prop} {to m : Nat} {R : List Nat} {dr : Nat → Int32} (hto : to < 4) (hR : R.length ≤ 40) (hG : td_SG inn g) (hd : td_dX R dr) (hX : td_SX inn g a_slotItems a_slotIn a_slotOut) (hp : ∀ si sn so, td_SX (td_uN inn to m) (td_uL g to R) si sn so → post (nI R.length) (f_workIn, f_workOut, f_workUsed, f_documentLength, nI R.length, f_runCount, si, sn, so, a_workItems, a_document, dr, a_draftDocument, a_runKinds, a_runLengths)) : wpX_storeDraft post (f_workIn, f_workOut, f_workUsed, f_documentLength, nI (min 41 R.length), f_runCount, a_slotItems, a_slotIn, a_slotOut, a_workItems, a_document, dr, a_draftDocument, a_runKinds, a_runLengths) (nI to) (nI m) := by
  rw [show min 41 R.length = R.length from by omega]
  exact ⟨R.length + 1, td_xstore2 hto hR hG hd hX.2.1 hX.2.2 hp _ 0 _ (Nat.zero_le _) (by omega) (fun s j hs _ hj => hX.1 s j hs hj) (fun j hj => absurd hj (Nat.not_lt_zero _))⟩
theorem td_yput2 {post : Int32 → SY → Prop} {to m : Nat} {R : List Nat} (hto : to < 4) (hR : R.length ≤ 40) (hG : td_SG inn g) (hd : td_dY R b_result) (h2 : ∀ s, s < 4 → b_inLen s = nI (inn s)) (h3 : ∀ s, s < 4 → b_outLen s = nI (g s).length) (hp : ∀ si so sn, td_SY (td_uN inn to m) (td_uL g to R) si so sn → post (nI R.length) (y_workIn, y_used, y_items, y_length, nI R.length, y_printed, si, so, sn, b_work, b_doc, b_result, b_print)) : ∀ n i si, i ≤ R.length → R.length - i < n → (∀ s j, s < 4 → s ≠ to → j < (g s).length → si (s * 40 + j) = nI (td_gt (g s) j)) → (∀ j, j < i → si (to * 40 + j) = nI (td_gt R j)) → wY_put_2 post (nI to) (nI m) y_workIn y_used y_items y_length (nI R.length) y_printed n (nI i) si b_outLen b_inLen b_work b_doc b_result b_print := by
  intro n
  induction n with
  | zero => intro i si _ h; exact absurd h (Nat.not_lt_zero _)
  | succ n ih =>
    intro i si hi hn e1 e2
    refine pk_le R.length i (fun h => ?_) (fun h => ?_)
    · refine ⟨td_s4 hto, nm_e ⟨td_s4 hto, nm_e (hp _ _ _ ⟨fun s j hs hj => ?_, fun s hs => ?_, fun s hs => ?_⟩)⟩⟩
      · by_cases z : s = to
        · subst z
          rw [td_uL_s] at hj ⊢
          exact e2 j (by omega)
        · rw [td_uL_n z] at hj ⊢
          exact e1 s j hs z hj
      · rw [nI_clamp (by omega)]
        by_cases z : s = to
        · subst z; rw [td_uN_s, pk_us]
        · rw [td_uN_n z, pk_un z]; exact h2 s hs
      · rw [nI_clamp (by omega)]
        by_cases z : s = to
        · subst z; rw [td_uL_s, pk_us]
        · rw [td_uL_n z, pk_un z]; exact h3 s hs
    · refine ⟨vp_in_nI (by omega) (by decide), pk_in (to * 40 + i) 160 (by omega) (td_ix _ _), nm_r (e' := upd si (to * 40 + i) (nI (td_gt R i))) (by rw [td_ix, nI_clamp (by omega), nI_clamp (by omega), hd i h]) (nm_r (nI_1 _) (ih (i + 1) _ (by omega) (by omega) (fun s j hs z hj => ?_) (fun j hj => ?_)))⟩
      · have := (hG s hs).2.1
        rw [pk_un (by omega)]
        exact e1 s j hs z hj
      · by_cases z : j = i
        · subst z; rw [pk_us]
        · rw [pk_un (by omega)]; exact e2 j (by omega)
theorem td_yput {post : Int32 → SY → Prop} {to m : Nat} {R : List Nat} {re : Nat → Int32} (hto : to < 4) (hR : R.length ≤ 40) (hG : td_SG inn g) (hd : td_dY R re) (hY : td_SY inn g b_out b_outLen b_inLen) (hp : ∀ si so sn, td_SY (td_uN inn to m) (td_uL g to R) si so sn → post (nI R.length) (y_workIn, y_used, y_items, y_length, nI R.length, y_printed, si, so, sn, b_work, b_doc, re, b_print)) : wpY_put post (y_workIn, y_used, y_items, y_length, nI R.length, y_printed, b_out, b_outLen, b_inLen, b_work, b_doc, re, b_print) (nI to) (nI m) :=
  ⟨R.length + 1, td_yput2 hto hR hG hd hY.2.1 hY.2.2 hp _ 0 _ (Nat.zero_le _) (by omega) (fun s j hs _ hj => hY.1 s j hs hj) (fun j hj => absurd hj (Nat.not_lt_zero _))⟩
/-! draftKept -/
theorem td_xkept2 {post : SX → Prop} {e : Nat} (he : e ≤ 40) : ∀ n i R dr, i ≤ e → e - i < n → td_dX R dr → (∀ dr', td_dX (R ++ td_rg (fun p => 10 + p) i (e - i)) dr' → post (f_workIn, f_workOut, f_workUsed, f_documentLength, nI (min 41 (R ++ td_rg (fun p => 10 + p) i (e - i)).length), f_runCount, a_slotItems, a_slotIn, a_slotOut, a_workItems, a_document, dr', a_draftDocument, a_runKinds, a_runLengths)) → wX_draftKept_2 post (nI e) n (nI i) f_workIn f_workOut f_workUsed f_documentLength (nI (min 41 R.length)) f_runCount a_slotItems a_slotIn a_slotOut a_workItems a_document dr a_draftDocument a_runKinds a_runLengths := by
  intro n
  induction n with
  | zero => intro i R dr _ h; exact absurd h (Nat.not_lt_zero _)
  | succ n ih =>
    intro i R dr hi hn hd hp
    refine pk_le e i (fun h => ?_) (fun h => ?_)
    · rw [show e - i = 0 from by omega, show td_rg (fun p => 10 + p) i 0 = [] from rfl, List.append_nil] at hp
      exact hp dr hd
    · rw [td_rg_step R _ h] at hp
      exact td_xitem (t := 10 + i) hd (by rw [td_cx10]) (fun dr' hd' => nm_r (nI_1 _) (ih (i + 1) _ dr' (by omega) (by omega) hd' hp))
theorem td_xkept {post : SX → Prop} {i e : Nat} {R : List Nat} {dr : Nat → Int32} (he : e ≤ 40) (hi : i ≤ e) (hd : td_dX R dr) (hp : ∀ dr', td_dX (R ++ td_rg (fun p => 10 + p) i (e - i)) dr' → post (f_workIn, f_workOut, f_workUsed, f_documentLength, nI (min 41 (R ++ td_rg (fun p => 10 + p) i (e - i)).length), f_runCount, a_slotItems, a_slotIn, a_slotOut, a_workItems, a_document, dr', a_draftDocument, a_runKinds, a_runLengths)) : wpX_draftKept post (f_workIn, f_workOut, f_workUsed, f_documentLength, nI (min 41 R.length), f_runCount, a_slotItems, a_slotIn, a_slotOut, a_workItems, a_document, dr, a_draftDocument, a_runKinds, a_runLengths) (nI i) (nI e) :=
  ⟨e - i + 1, td_xkept2 he _ i R dr hi (by omega) hd hp⟩
/-! finish -/
theorem td_xfin {post : Int32 → SX → Prop} {wi us to : Nat} {wk : List Nat} (hto : to < 4) (hu : us ≤ wi) (hwi : wi ≤ 40) (hl : wk.length + wi - us ≤ 40) (hG : td_SG inn g) (hX : td_SX inn g a_slotItems a_slotIn a_slotOut) (hw : td_dW wk a_workItems) (hp : ∀ dr si sn so, td_SX (td_uN inn to wi) (td_uL g to (wk ++ td_rg (fun p => 10 + p) us (wi - us))) si sn so → post (nI (wk ++ td_rg (fun p => 10 + p) us (wi - us)).length) (nI wi, nI wk.length, nI us, f_documentLength, nI (wk ++ td_rg (fun p => 10 + p) us (wi - us)).length, f_runCount, si, sn, so, a_workItems, a_document, dr, a_draftDocument, a_runKinds, a_runLengths)) : ∀ n i dr, i ≤ wk.length → wk.length - i < n → td_dX (wk.take i) dr → wX_finish_38 post (nI to) n (nI i) (nI wi) (nI wk.length) (nI us) f_documentLength (nI (min 41 (wk.take i).length)) f_runCount a_slotItems a_slotIn a_slotOut a_workItems a_document dr a_draftDocument a_runKinds a_runLengths := by
  intro n
  induction n with
  | zero => intro i dr _ h; exact absurd h (Nat.not_lt_zero _)
  | succ n ih =>
    intro i dr hi hn hd
    refine pk_le wk.length i (fun h => ?_) (fun h => ?_)
    · rw [show i = wk.length from by omega, List.take_length] at hd ⊢
      refine td_xkept hwi hu hd (fun dr' hd' => ?_)
      exact td_xstore hto (by rw [List.length_append, td_rg_len]; omega) hG hd' hX (fun si sn so hS => hp dr' si sn so hS)
    · refine ⟨vp_in_nI (by omega) (by decide), td_xitem (t := td_gt wk i) hd (by rw [nI_clamp (by omega), hw i h]) (fun dr' hd' => nm_r (nI_1 _) ?_)⟩
      rw [← td_take h] at hd' ⊢
      exact ih (i + 1) dr' (by omega) (by omega) hd'
theorem td_yfin2 {post : Int32 → SY → Prop} {wi to : Nat} (hto : to < 4) (hwi : wi ≤ 40) (hG : td_SG inn g) (hY : td_SY inn g b_out b_outLen b_inLen) : ∀ n i R re, i ≤ wi → wi - i < n → R.length + (wi - i) ≤ 40 → td_dY R re → (∀ re si so sn, td_SY (td_uN inn to wi) (td_uL g to (R ++ td_rg (fun p => 10 + p) i (wi - i))) si so sn → post (nI (R ++ td_rg (fun p => 10 + p) i (wi - i)).length) (nI wi, y_used, y_items, y_length, nI (R ++ td_rg (fun p => 10 + p) i (wi - i)).length, y_printed, si, so, sn, b_work, b_doc, re, b_print)) → wY_finish_68 post (nI to) n (nI i) (nI wi) y_used y_items y_length (nI R.length) y_printed b_out b_outLen b_inLen b_work b_doc re b_print := by
  intro n
  induction n with
  | zero => intro i R re _ h; exact absurd h (Nat.not_lt_zero _)
  | succ n ih =>
    intro i R re hi hn hl hd hp
    refine pk_le wi i (fun h => ?_) (fun h => ?_)
    · rw [show wi - i = 0 from by omega, show td_rg (fun p => 10 + p) i 0 = [] from rfl, List.append_nil] at hp
      exact td_yput hto (by omega) hG hd hY (fun si so sn hS => hp re si so sn hS)
    · rw [td_rg_step R _ h] at hp
      exact td_yemit (t := 10 + i) hd (by omega) (td_10 _) (fun re' hd' => nm_r (nI_1 _) (ih (i + 1) _ re' (by omega) (by omega) (by rw [td_len1]; omega) hd' hp))
theorem td_yfin {post : Int32 → SY → Prop} {wi us to : Nat} {wk : List Nat} (hto : to < 4) (hu : us ≤ wi) (hwi : wi ≤ 40) (hl : wk.length + wi - us ≤ 40) (hG : td_SG inn g) (hY : td_SY inn g b_out b_outLen b_inLen) (hw : td_dY wk b_work) (hp : ∀ re si so sn, td_SY (td_uN inn to wi) (td_uL g to (wk ++ td_rg (fun p => 10 + p) us (wi - us))) si so sn → post (nI (wk ++ td_rg (fun p => 10 + p) us (wi - us)).length) (nI wi, nI us, nI wk.length, y_length, nI (wk ++ td_rg (fun p => 10 + p) us (wi - us)).length, y_printed, si, so, sn, b_work, b_doc, re, b_print)) : ∀ n i re, i ≤ wk.length → wk.length - i < n → td_dY (wk.take i) re → wY_finish_39 post (nI to) n (nI i) (nI wi) (nI us) (nI wk.length) y_length (nI (wk.take i).length) y_printed b_out b_outLen b_inLen b_work b_doc re b_print := by
  intro n
  induction n with
  | zero => intro i re _ h; exact absurd h (Nat.not_lt_zero _)
  | succ n ih =>
    intro i re hi hn hd
    refine pk_le wk.length i (fun h => ?_) (fun h => ?_)
    · rw [show i = wk.length from by omega, List.take_length] at hd ⊢
      exact ⟨wi - us + 1, td_yfin2 hto hwi hG hY _ us wk re hu (by omega) (by omega) hd hp⟩
    · have hz : (wk.take i).length = i := by rw [List.length_take]; omega
      refine ⟨vp_in_nI (by omega) (by decide), td_yemit (t := td_gt wk i) hd (by omega) (by rw [nI_clamp (by omega), hw i h]) (fun re' hd' => nm_r (nI_1 _) ?_)⟩
      rw [← td_take h] at hd' ⊢
      exact ih (i + 1) re' (by omega) (by omega) hd'
end
theorem i_vc_finish {k : Nat} {u : SX} {v : SY} (I : i_Rel k u v) (hk : k + 5 ≤ 2560) (v1 : Int32) : wpX_finish (fun r u' => wpY_finish (fun r' v' => r' = r ∧ i_Rel (k + 5) u' v') v v1) u v1 := by
  obtain ⟨f_workIn, f_workOut, f_workUsed, f_documentLength, f_draftLength, f_runCount, a_slotItems, a_slotIn, a_slotOut, a_workItems, a_document, a_draft, a_draftDocument, a_runKinds, a_runLengths⟩ := u
  obtain ⟨y_workIn, y_used, y_items, y_length, y_size, y_printed, b_out, b_outLen, b_inLen, b_work, b_doc, b_result, b_print⟩ := v
  have I2 := I
  obtain ⟨wi, us, wk, dc, inn, g, hK, hG, ⟨rfl, rfl, rfl, rfl, hX, hw, hd⟩, rfl, rfl, rfl, rfl, hY, hw2, hd2⟩ := I
  obtain ⟨k1, k2, k3, k4, k5⟩ := hK
  unfold wpX_finish wpY_finish
  rcases td_slot v1 with ⟨s, hs, rfl⟩ | ⟨hx, hy⟩
  · have e : nI wk.length + nI wi - nI us = nI (wk.length + wi - us) := by rw [nI_add, pk_sub (by omega)]
    refine td_xs1 hs (br_f td_10ne (pk_le (wk.length + wi - us) 40 (fun h => ⟨wk.length + 1, ?_⟩) (fun h => ?_) e))
    · refine td_xfin hs k1 k2 h hG hX hw (fun dr si sn so hS => ?_) _ 0 _ (Nat.zero_le _) (by omega) (td_dX0 _)
      refine td_ys1 hs (br_f td_10ne (pk_le (wk.length + wi - us) 40 (fun _ => ⟨wk.length + 1, ?_⟩) (fun z => absurd z (by omega)) e))
      refine td_yfin hs k1 k2 h hG hY hw2 (fun re ti tn to hT => ⟨rfl, ?_⟩) _ 0 _ (Nat.zero_le _) (by omega) (td_dY0 _)
      have hwf := td_rg_wfK (wi - us) wk us k4
      rw [show us + (wi - us) = wi from by omega] at hwf
      exact td_mk ⟨k1, k2, k3, k4, k5⟩ (td_SGu hG k2 (by rw [List.length_append, td_rg_len]; omega) hwf) hS hw hd hT hw2 hd2
    · exact td_ys1 hs (br_f td_10ne (pk_le (wk.length + wi - us) 40 (fun z => absurd z (by omega)) (fun _ => ⟨rfl, I2⟩) e))
  · exact hx _ (br_t rfl (hy _ _ (br_t rfl ⟨rfl, I2⟩)))
