/-! the relation: Y's codes are the ghosts; X's are td_cx of them -/
def td_dX (R : List Nat) (a : Nat → Int32) : Prop := ∀ i, i < R.length → i < 41 → a i = nI (td_cx (td_gt R i))
def td_dY (R : List Nat) (a : Nat → Int32) : Prop := ∀ i, i < R.length → a i = nI (td_gt R i)
def td_dW (R : List Nat) (a : Nat → Int32) : Prop := ∀ i, i < R.length → a i = nI (td_cx (td_gt R i))
def td_SX (inn : Nat → Nat) (g : Nat → List Nat) (si sn so : Nat → Int32) : Prop := (∀ s i, s < 4 → i < (g s).length → si (s * 40 + i) = nI (td_cx (td_gt (g s) i))) ∧ (∀ s, s < 4 → sn s = nI (inn s)) ∧ (∀ s, s < 4 → so s = nI (g s).length)
def td_SY (inn : Nat → Nat) (g : Nat → List Nat) (si so sn : Nat → Int32) : Prop := (∀ s i, s < 4 → i < (g s).length → si (s * 40 + i) = nI (td_gt (g s) i)) ∧ (∀ s, s < 4 → sn s = nI (inn s)) ∧ (∀ s, s < 4 → so s = nI (g s).length)
def td_SG (inn : Nat → Nat) (g : Nat → List Nat) : Prop := ∀ s, s < 4 → inn s ≤ 40 ∧ (g s).length ≤ 40 ∧ td_wf (inn s) (g s)
def td_K (wi us : Nat) (wk dc : List Nat) : Prop := us ≤ wi ∧ wi ≤ 40 ∧ wk.length ≤ 40 ∧ td_wf us wk ∧ dc.length ≤ 40 ∧ ∀ i, i < dc.length → td_gt dc i < 10
def td_Rel (u : SX) (v : SY) : Prop := ∃ (wi us : Nat) (wk dc : List Nat) (inn : Nat → Nat) (g : Nat → List Nat), td_K wi us wk dc ∧ td_SG inn g ∧
  (match u with
  | (f_workIn, f_workOut, f_workUsed, f_documentLength, f_draftLength, f_runCount, a_slotItems, a_slotIn, a_slotOut, a_workItems, a_document, a_draft, a_draftDocument, a_runKinds, a_runLengths) => f_workIn = nI wi ∧ f_workOut = nI wk.length ∧ f_workUsed = nI us ∧ f_documentLength = nI dc.length ∧ td_SX inn g a_slotItems a_slotIn a_slotOut ∧ td_dW wk a_workItems ∧ td_dY dc a_document) ∧
  (match v with
  | (y_workIn, y_used, y_items, y_length, y_size, y_printed, b_out, b_outLen, b_inLen, b_work, b_doc, b_result, b_print) => y_workIn = nI wi ∧ y_used = nI us ∧ y_items = nI wk.length ∧ y_length = nI dc.length ∧ td_SY inn g b_out b_outLen b_inLen ∧ td_dY wk b_work ∧ td_dY dc b_doc)
def i_Rel (k : Nat) (u : SX) (v : SY) : Prop := td_Rel u v
theorem i_up {k : Nat} {u : SX} {v : SY} (h : i_Rel k u v) : i_Rel (k + 5) u v := h
section
variable {f_workIn f_workOut f_workUsed f_documentLength f_draftLength f_runCount : Int32} {a_slotItems a_slotIn a_slotOut a_workItems a_document a_draft a_draftDocument a_runKinds a_runLengths : Nat → Int32}
variable {y_workIn y_used y_items y_length y_size y_printed : Int32} {b_out b_outLen b_inLen b_work b_doc b_result b_print : Nat → Int32}
variable {wi us : Nat} {wk dc : List Nat} {inn : Nat → Nat} {g : Nat → List Nat}
theorem td_mk {k : Nat} (hK : td_K wi us wk dc) (hG : td_SG inn g) (hX : td_SX inn g a_slotItems a_slotIn a_slotOut) (hw : td_dW wk a_workItems) (hd : td_dY dc a_document) (hY : td_SY inn g b_out b_outLen b_inLen) (hw2 : td_dY wk b_work) (hd2 : td_dY dc b_doc) : i_Rel k (nI wi, nI wk.length, nI us, nI dc.length, f_draftLength, f_runCount, a_slotItems, a_slotIn, a_slotOut, a_workItems, a_document, a_draft, a_draftDocument, a_runKinds, a_runLengths) (nI wi, nI us, nI wk.length, nI dc.length, y_size, y_printed, b_out, b_outLen, b_inLen, b_work, b_doc, b_result, b_print) :=
  ⟨wi, us, wk, dc, inn, g, hK, hG, ⟨rfl, rfl, rfl, rfl, hX, hw, hd⟩, rfl, rfl, rfl, rfl, hY, hw2, hd2⟩
end
theorem td_dY0 (a : Nat → Int32) : td_dY [] a := fun i h => absurd h (Nat.not_lt_zero _)
theorem td_dW0 (a : Nat → Int32) : td_dW [] a := fun i h => absurd h (Nat.not_lt_zero _)
theorem td_dX0 (a : Nat → Int32) : td_dX [] a := fun i h => absurd h (Nat.not_lt_zero _)
theorem td_dYp {R : List Nat} {a : Nat → Int32} {t : Nat} (h : td_dY R a) : td_dY (R ++ [t]) (upd a R.length (nI t)) := by
  intro i hi
  rw [td_len1] at hi
  rw [td_gt_app1 hi]
  by_cases z : i < R.length
  · rw [if_pos z, pk_un (by omega)]; exact h i z
  · rw [if_neg z, show i = R.length from by omega, pk_us]
theorem td_dWp {R : List Nat} {a : Nat → Int32} {t : Nat} (h : td_dW R a) : td_dW (R ++ [t]) (upd a R.length (nI (td_cx t))) := by
  intro i hi
  rw [td_len1] at hi
  rw [td_gt_app1 hi]
  by_cases z : i < R.length
  · rw [if_pos z, pk_un (by omega)]; exact h i z
  · rw [if_neg z, show i = R.length from by omega, pk_us]
theorem td_dXp {R : List Nat} {a : Nat → Int32} {t : Nat} (h : td_dX R a) : td_dX (R ++ [t]) (upd a R.length (nI (td_cx t))) := by
  intro i hi h4
  rw [td_len1] at hi
  rw [td_gt_app1 hi]
  by_cases z : i < R.length
  · rw [if_pos z, pk_un (by omega)]; exact h i z h4
  · rw [if_neg z, show i = R.length from by omega, pk_us]
theorem td_dXf {R : List Nat} {a : Nat → Int32} {t : Nat} (h : td_dX R a) (hR : 41 ≤ R.length) : td_dX (R ++ [t]) a := by
  intro i hi h4
  rw [td_gt_lo (by omega)]
  exact h i (by omega) h4
theorem i_vc0 : wpX_init (fun u => wpY_init (fun v => i_Rel 0 u v)) := by
  refine ⟨0, 0, [], [], fun _ => 0, fun _ => [], ⟨by omega, by omega, Nat.zero_le _, td_wf0 _, Nat.zero_le _, fun i h => absurd h (Nat.not_lt_zero _)⟩, fun s _ => ⟨Nat.zero_le _, Nat.zero_le _, td_wf0 _⟩, ⟨rfl, rfl, rfl, rfl, ⟨fun s i _ h => absurd h (Nat.not_lt_zero _), fun _ _ => rfl, fun _ _ => rfl⟩, td_dW0 _, td_dY0 _⟩, rfl, rfl, rfl, rfl, ⟨fun s i _ h => absurd h (Nat.not_lt_zero _), fun _ _ => rfl, fun _ _ => rfl⟩, td_dY0 _, td_dY0 _⟩
theorem td_ge1 {x : Int32} (h : (1 : Int32) ≤ x) : ∃ k : Nat, 1 ≤ k ∧ k < 2 ^ 31 ∧ x = nI k := by
  have h1 : (1 : Int32).toInt ≤ x.toInt := Int32.le_iff_toInt_le.mp h
  have h2 : (1 : Int32).toInt = 1 := by decide
  have h3 : (0 : Int32).toInt = 0 := by decide
  obtain ⟨k, hk, rfl⟩ := nI_of (x := x) (by rw [Int32.lt_iff_toInt_lt, h3]; omega)
  rw [h2, nI_toInt hk] at h1
  exact ⟨k, by omega, hk, rfl⟩
theorem td_slot (x : Int32) : (∃ s, s < 4 ∧ x = nI s) ∨ ((∀ post : Int32 → Prop, post 0 → wpX_isSlot post x) ∧ (∀ (post : Int32 → Prop) (v : SY), post 0 → wpY_isSlot post v x)) := by
  by_cases h0 : x < 0
  · exact Or.inr ⟨fun post h => br_t h0 h, fun post v h => br_t h0 h⟩
  · obtain ⟨j, hj, rfl⟩ := nI_of h0
    by_cases h4 : j < 4
    · exact Or.inl ⟨j, h4, rfl⟩
    · exact Or.inr ⟨fun post h => br_f h0 (pk_le 4 j (fun _ => h) (fun z => absurd z h4)), fun post v h => br_f h0 (pk_lt 3 j (fun _ => h) (fun z => absurd (Nat.lt_succ_of_le z) h4))⟩
theorem td_xs1 {s : Nat} (hs : s < 4) {post : Int32 → Prop} (h : post 1) : wpX_isSlot post (nI s) :=
  br_f (nI_pos (by omega)) (pk_le 4 s (fun z => absurd z (by omega)) (fun _ => h))
theorem td_ys1 {s : Nat} (hs : s < 4) {post : Int32 → Prop} {v : SY} (h : post 1) : wpY_isSlot post v (nI s) :=
  br_f (nI_pos (by omega)) (pk_lt 3 s (fun z => absurd z (by omega)) (fun _ => h))
theorem td_10ne : ¬ (1 : Int32) = 0 := by decide
theorem i_vc_begin {k : Nat} {u : SX} {v : SY} (I : i_Rel k u v) (hk : k + 5 ≤ 2560) (v1 : Int32) : wpX_begin (fun r u' => wpY_begin (fun r' v' => r' = r ∧ i_Rel (k + 5) u' v') v v1) u v1 := by
  obtain ⟨f_workIn, f_workOut, f_workUsed, f_documentLength, f_draftLength, f_runCount, a_slotItems, a_slotIn, a_slotOut, a_workItems, a_document, a_draft, a_draftDocument, a_runKinds, a_runLengths⟩ := u
  obtain ⟨y_workIn, y_used, y_items, y_length, y_size, y_printed, b_out, b_outLen, b_inLen, b_work, b_doc, b_result, b_print⟩ := v
  by_cases h0 : v1 < 0
  · exact br_t h0 (br_t h0 ⟨rfl, I⟩)
  · by_cases h1 : v1 ≤ 40
    · obtain ⟨j, hj, rfl⟩ := nI_of2 (n := 40) (by decide) h0 h1
      obtain ⟨wi, us, wk, dc, inn, g, hK, hG, ⟨rfl, rfl, rfl, rfl, hX, hw, hd⟩, rfl, rfl, rfl, rfl, hY, hw2, hd2⟩ := I
      exact br_f h0 (br_t h1 (br_f h0 (br_t h1 ⟨rfl, td_mk (wk := []) (us := 0) ⟨Nat.zero_le _, hj, Nat.zero_le _, td_wf0 _, hK.2.2.2.2⟩ hG hX (td_dW0 _) hd hY (td_dY0 _) hd2⟩)))
    · exact br_f h0 (br_f h1 (br_f h0 (br_f h1 ⟨rfl, I⟩)))
theorem i_vc_drop {k : Nat} {u : SX} {v : SY} (I : i_Rel k u v) (hk : k + 5 ≤ 2560) (v1 : Int32) : wpX_drop (fun r u' => wpY_drop (fun r' v' => r' = r ∧ i_Rel (k + 5) u' v') v v1) u v1 := by
  obtain ⟨f_workIn, f_workOut, f_workUsed, f_documentLength, f_draftLength, f_runCount, a_slotItems, a_slotIn, a_slotOut, a_workItems, a_document, a_draft, a_draftDocument, a_runKinds, a_runLengths⟩ := u
  obtain ⟨y_workIn, y_used, y_items, y_length, y_size, y_printed, b_out, b_outLen, b_inLen, b_work, b_doc, b_result, b_print⟩ := v
  by_cases h0 : 1 ≤ v1
  · obtain ⟨j, hj, hj2, rfl⟩ := td_ge1 h0
    have I2 := I
    obtain ⟨wi, us, wk, dc, inn, g, hK, hG, ⟨rfl, rfl, rfl, rfl, hX, hw, hd⟩, rfl, rfl, rfl, rfl, hY, hw2, hd2⟩ := I
    obtain ⟨k1, k2, k3, k4, k5⟩ := hK
    refine br_t h0 (pk_le j (wi - us) (fun h => nm_r (nI_add _ _) ?_) (fun h => ?_) rfl (pk_sub k1))
    · refine br_t h0 (pk_le j (wi - us) (fun h => nm_r (nI_add _ _) ?_) (fun h => absurd h (by omega)) rfl (pk_sub k1))
      exact ⟨rfl, td_mk ⟨by omega, k2, k3, td_wfM k4 (by omega), k5⟩ hG hX hw hd hY hw2 hd2⟩
    · refine br_t h0 (pk_le j (wi - us) (fun h => absurd h (by omega)) (fun h => ?_) rfl (pk_sub k1))
      exact ⟨rfl, I2⟩
  · exact br_f h0 (br_f h0 ⟨rfl, I⟩)
theorem td_letter (x : Int32) : (∃ s, s < 10 ∧ x = nI s ∧ (∀ post : Int32 → Prop, post 1 → wpX_isLetter post x) ∧ ¬ x < 0 ∧ x ≤ 9) ∨ ((∀ post : Int32 → Prop, post 0 → wpX_isLetter post x) ∧ (x < 0 ∨ (¬ x < 0 ∧ ¬ x ≤ 9))) := by
  by_cases h0 : x < 0
  · exact Or.inr ⟨fun post h => br_t h0 h, Or.inl h0⟩
  · obtain ⟨j, hj, rfl⟩ := nI_of h0
    by_cases h4 : j < 10
    · exact Or.inl ⟨j, h4, rfl, fun post h => br_f h0 (pk_le 10 j (fun z => absurd z (by omega)) (fun _ => h)), h0, nI_le (b := 9) (by omega) (by decide)⟩
    · exact Or.inr ⟨fun post h => br_f h0 (pk_le 10 j (fun _ => h) (fun z => absurd z h4)), Or.inr ⟨h0, nI_ge (a := 9) (by omega) hj⟩⟩
theorem i_vc_add {k : Nat} {u : SX} {v : SY} (I : i_Rel k u v) (hk : k + 5 ≤ 2560) (v1 : Int32) : wpX_add (fun r u' => wpY_add (fun r' v' => r' = r ∧ i_Rel (k + 5) u' v') v v1) u v1 := by
  obtain ⟨f_workIn, f_workOut, f_workUsed, f_documentLength, f_draftLength, f_runCount, a_slotItems, a_slotIn, a_slotOut, a_workItems, a_document, a_draft, a_draftDocument, a_runKinds, a_runLengths⟩ := u
  obtain ⟨y_workIn, y_used, y_items, y_length, y_size, y_printed, b_out, b_outLen, b_inLen, b_work, b_doc, b_result, b_print⟩ := v
  unfold wpX_add
  rcases td_letter v1 with ⟨c, hc, rfl, hx, h0, h9⟩ | ⟨hx, hy⟩
  · refine hx _ (br_f td_10ne ?_)
    have I2 := I
    obtain ⟨wi, us, wk, dc, inn, g, hK, hG, ⟨rfl, rfl, rfl, rfl, hX, hw, hd⟩, rfl, rfl, rfl, rfl, hY, hw2, hd2⟩ := I
    obtain ⟨k1, k2, k3, k4, k5⟩ := hK
    refine pk_lt wk.length 40 (fun h => ⟨vp_in_nI h (by decide), nm_r (e' := upd a_workItems wk.length (nI (td_cx c))) (by rw [nI_clamp (by omega), td_100, td_cxN hc]) (nm_r (nI_1 _) ?_)⟩) (fun h => ?_)
    · refine br_f h0 (br_t h9 (pk_eq wk.length 40 (fun z => absurd z (by omega)) (fun _ => ⟨vp_in_nI h (by decide), nm_r (e' := upd b_work wk.length (nI c)) (by rw [nI_clamp (by omega)]) (nm_r (nI_1 _) ?_)⟩)))
      refine ⟨rfl, ?_⟩
      rw [← td_len1 (x := c)]
      exact td_mk ⟨k1, k2, by rw [td_len1]; omega, td_wfN k4 hc, k5⟩ hG hX (td_dWp hw) hd hY (td_dYp hw2) hd2
    · exact br_f h0 (br_t h9 (pk_eq wk.length 40 (fun _ => ⟨rfl, I2⟩) (fun z => absurd (by omega) z)))
  · refine hx _ (br_t rfl ?_)
    rcases hy with h | ⟨h, h2⟩
    · exact br_t h ⟨rfl, I⟩
    · exact br_f h (br_f h2 ⟨rfl, I⟩)
theorem i_vc_type {k : Nat} {u : SX} {v : SY} (I : i_Rel k u v) (hk : k + 5 ≤ 2560) (v1 : Int32) : wpX_type (fun r u' => wpY_type (fun r' v' => r' = r ∧ i_Rel (k + 5) u' v') v v1) u v1 := by
  obtain ⟨f_workIn, f_workOut, f_workUsed, f_documentLength, f_draftLength, f_runCount, a_slotItems, a_slotIn, a_slotOut, a_workItems, a_document, a_draft, a_draftDocument, a_runKinds, a_runLengths⟩ := u
  obtain ⟨y_workIn, y_used, y_items, y_length, y_size, y_printed, b_out, b_outLen, b_inLen, b_work, b_doc, b_result, b_print⟩ := v
  unfold wpX_type
  rcases td_letter v1 with ⟨c, hc, rfl, hx, h0, h9⟩ | ⟨hx, hy⟩
  · refine hx _ (br_f td_10ne ?_)
    have I2 := I
    obtain ⟨wi, us, wk, dc, inn, g, hK, hG, ⟨rfl, rfl, rfl, rfl, hX, hw, hd⟩, rfl, rfl, rfl, rfl, hY, hw2, hd2⟩ := I
    obtain ⟨k1, k2, k3, k4, k5, k6⟩ := hK
    refine pk_lt dc.length 40 (fun h => ⟨vp_in_nI h (by decide), nm_r (e' := upd a_document dc.length (nI c)) (by rw [nI_clamp (by omega)]) (nm_r (nI_1 _) ?_)⟩) (fun h => ?_)
    · refine br_f h0 (br_t h9 (pk_eq dc.length 40 (fun z => absurd z (by omega)) (fun _ => ⟨vp_in_nI h (by decide), nm_r (e' := upd b_doc dc.length (nI c)) (by rw [nI_clamp (by omega)]) (nm_r (nI_1 _) ?_)⟩)))
      refine ⟨rfl, ?_⟩
      rw [← td_len1 (x := c)]
      refine td_mk ⟨k1, k2, k3, k4, by rw [td_len1]; omega, fun i hi => ?_⟩ hG hX hw (td_dYp hd) hY hw2 (td_dYp hd2)
      rw [td_len1] at hi
      rw [td_gt_app1 hi]
      split
      · exact k6 i ‹_›
      · exact hc
    · exact br_f h0 (br_t h9 (pk_eq dc.length 40 (fun _ => ⟨rfl, I2⟩) (fun z => absurd (by omega) z)))
  · refine hx _ (br_t rfl ?_)
    rcases hy with h | ⟨h, h2⟩
    · exact br_t h ⟨rfl, I⟩
    · exact br_f h (br_f h2 ⟨rfl, I⟩)
theorem i_vc_clear {k : Nat} {u : SX} {v : SY} (I : i_Rel k u v) (hk : k + 5 ≤ 2560) : wpX_clear (fun u' => wpY_clear (fun v' => i_Rel (k + 5) u' v') v) u := by
  obtain ⟨f_workIn, f_workOut, f_workUsed, f_documentLength, f_draftLength, f_runCount, a_slotItems, a_slotIn, a_slotOut, a_workItems, a_document, a_draft, a_draftDocument, a_runKinds, a_runLengths⟩ := u
  obtain ⟨y_workIn, y_used, y_items, y_length, y_size, y_printed, b_out, b_outLen, b_inLen, b_work, b_doc, b_result, b_print⟩ := v
  obtain ⟨wi, us, wk, dc, inn, g, hK, hG, ⟨rfl, rfl, rfl, rfl, hX, hw, hd⟩, rfl, rfl, rfl, rfl, hY, hw2, hd2⟩ := I
  obtain ⟨k1, k2, k3, k4, k5, k6⟩ := hK
  unfold wpX_clear wpY_clear
  exact td_mk (dc := []) ⟨k1, k2, k3, k4, Nat.zero_le _, fun i h => absurd h (Nat.not_lt_zero _)⟩ hG hX hw (td_dY0 _) hY hw2 (td_dY0 _)
theorem i_vc_length {k : Nat} {u : SX} {v : SY} (I : i_Rel k u v) (hk : k + 5 ≤ 2560) : wpX_length (fun r => wpY_length (fun r' => r' = r ∧ i_Rel (k + 5) u v) v) u := by
  obtain ⟨f_workIn, f_workOut, f_workUsed, f_documentLength, f_draftLength, f_runCount, a_slotItems, a_slotIn, a_slotOut, a_workItems, a_document, a_draft, a_draftDocument, a_runKinds, a_runLengths⟩ := u
  obtain ⟨y_workIn, y_used, y_items, y_length, y_size, y_printed, b_out, b_outLen, b_inLen, b_work, b_doc, b_result, b_print⟩ := v
  have I2 := I
  obtain ⟨wi, us, wk, dc, inn, g, hK, hG, ⟨rfl, rfl, rfl, rfl, hX, hw, hd⟩, rfl, rfl, rfl, rfl, hY, hw2, hd2⟩ := I
  exact ⟨rfl, I2⟩
theorem i_vc_at {k : Nat} {u : SX} {v : SY} (I : i_Rel k u v) (hk : k + 5 ≤ 2560) (v1 : Int32) : wpX_at (fun r => wpY_at (fun r' => r' = r ∧ i_Rel (k + 5) u v) v v1) u v1 := by
  obtain ⟨f_workIn, f_workOut, f_workUsed, f_documentLength, f_draftLength, f_runCount, a_slotItems, a_slotIn, a_slotOut, a_workItems, a_document, a_draft, a_draftDocument, a_runKinds, a_runLengths⟩ := u
  obtain ⟨y_workIn, y_used, y_items, y_length, y_size, y_printed, b_out, b_outLen, b_inLen, b_work, b_doc, b_result, b_print⟩ := v
  have I2 := I
  obtain ⟨wi, us, wk, dc, inn, g, hK, hG, ⟨rfl, rfl, rfl, rfl, hX, hw, hd⟩, rfl, rfl, rfl, rfl, hY, hw2, hd2⟩ := I
  obtain ⟨k1, k2, k3, k4, k5, k6⟩ := hK
  by_cases h0 : v1 < 0
  · exact br_t h0 (br_t h0 ⟨rfl, I2⟩)
  · obtain ⟨j, hj, rfl⟩ := nI_of h0
    refine br_f h0 (pk_lt j dc.length (fun h => ⟨vp_in_nI (by omega) (by decide), br_f h0 (pk_lt j dc.length (fun h => ⟨vp_in_nI (by omega) (by decide), ?_, I2⟩) (fun z => absurd h (by omega)))⟩) (fun h => br_f h0 (pk_lt j dc.length (fun z => absurd z (by omega)) (fun _ => ⟨rfl, I2⟩))))
    rw [nI_clamp hj, hd j h, hd2 j h]
theorem i_vc_inLength {k : Nat} {u : SX} {v : SY} (I : i_Rel k u v) (hk : k + 5 ≤ 2560) (v1 : Int32) : wpX_inLength (fun r => wpY_inLength (fun r' => r' = r ∧ i_Rel (k + 5) u v) v v1) u v1 := by
  obtain ⟨f_workIn, f_workOut, f_workUsed, f_documentLength, f_draftLength, f_runCount, a_slotItems, a_slotIn, a_slotOut, a_workItems, a_document, a_draft, a_draftDocument, a_runKinds, a_runLengths⟩ := u
  obtain ⟨y_workIn, y_used, y_items, y_length, y_size, y_printed, b_out, b_outLen, b_inLen, b_work, b_doc, b_result, b_print⟩ := v
  have I2 := I
  obtain ⟨wi, us, wk, dc, inn, g, hK, hG, ⟨rfl, rfl, rfl, rfl, hX, hw, hd⟩, rfl, rfl, rfl, rfl, hY, hw2, hd2⟩ := I
  unfold wpX_inLength wpY_inLength
  rcases td_slot v1 with ⟨s, hs, rfl⟩ | ⟨hx, hy⟩
  · have hi : vp_in (nI s) 4 := vp_in_nI hs (by decide)
    refine td_xs1 hs (br_f td_10ne ⟨hi, td_ys1 hs (br_f td_10ne ⟨hi, ?_, I2⟩)⟩)
    rw [nI_clamp (by omega), hX.2.1 s hs, hY.2.1 s hs]
  · exact hx _ (br_t rfl (hy _ _ (br_t rfl ⟨rfl, I2⟩)))
theorem i_vc_outLength {k : Nat} {u : SX} {v : SY} (I : i_Rel k u v) (hk : k + 5 ≤ 2560) (v1 : Int32) : wpX_outLength (fun r => wpY_outLength (fun r' => r' = r ∧ i_Rel (k + 5) u v) v v1) u v1 := by
  obtain ⟨f_workIn, f_workOut, f_workUsed, f_documentLength, f_draftLength, f_runCount, a_slotItems, a_slotIn, a_slotOut, a_workItems, a_document, a_draft, a_draftDocument, a_runKinds, a_runLengths⟩ := u
  obtain ⟨y_workIn, y_used, y_items, y_length, y_size, y_printed, b_out, b_outLen, b_inLen, b_work, b_doc, b_result, b_print⟩ := v
  have I2 := I
  obtain ⟨wi, us, wk, dc, inn, g, hK, hG, ⟨rfl, rfl, rfl, rfl, hX, hw, hd⟩, rfl, rfl, rfl, rfl, hY, hw2, hd2⟩ := I
  unfold wpX_outLength wpY_outLength
  rcases td_slot v1 with ⟨s, hs, rfl⟩ | ⟨hx, hy⟩
  · have hi : vp_in (nI s) 4 := vp_in_nI hs (by decide)
    refine td_xs1 hs (br_f td_10ne ⟨hi, td_ys1 hs (br_f td_10ne ⟨hi, ?_, I2⟩)⟩)
    rw [nI_clamp (by omega), hX.2.2 s hs, hY.2.2 s hs]
  · exact hx _ (br_t rfl (hy _ _ (br_t rfl ⟨rfl, I2⟩)))
