theorem td_rg_end (c : Nat → Nat) : ∀ d i, td_rg c i (d + 1) = td_rg c i d ++ [c (i + d)] := by
  intro d
  induction d with
  | zero => intro i; rfl
  | succ d ih =>
    intro i
    show c i :: td_rg c (i + 1) (d + 1) = (c i :: td_rg c (i + 1) d) ++ [c (i + (d + 1))]
    rw [ih, show i + 1 + d = i + (d + 1) from by omega]
    rfl
theorem td_take {L : List Nat} {i : Nat} (h : i < L.length) : L.take (i + 1) = L.take i ++ [td_gt L i] := by
  rw [List.take_succ_eq_append_getElem h]
  unfold td_gt
  rw [List.getD_eq_getElem?_getD, List.getElem?_eq_getElem h]
  rfl
section
variable {f_workIn f_workOut f_workUsed f_documentLength f_draftLength f_runCount : Int32} {a_slotItems a_slotIn a_slotOut a_workItems a_document a_draft a_draftDocument a_runKinds a_runLengths : Nat → Int32}
variable {y_workIn y_used y_items y_length y_size y_printed : Int32} {b_out b_outLen b_inLen b_work b_doc b_result b_print : Nat → Int32}
/-! keep -/
theorem td_xkeep {post : Int32 → SX → Prop} {us k : Nat} {wk : List Nat} (hl : wk.length + k ≤ 40) (hus : us + k ≤ 40) (hp : ∀ wa, td_dW (wk ++ td_rg (fun p => 10 + p) us k) wa → post (nI (wk.length + k)) (f_workIn, nI (wk.length + k), nI (us + k), f_documentLength, f_draftLength, f_runCount, a_slotItems, a_slotIn, a_slotOut, wa, a_document, a_draft, a_draftDocument, a_runKinds, a_runLengths)) : ∀ n i wa, i ≤ k → k - i < n → td_dW (wk ++ td_rg (fun p => 10 + p) us i) wa → wX_keep_39 post (nI k) f_workIn (nI wk.length) (nI us) f_documentLength f_draftLength f_runCount n (nI i) a_slotItems a_slotIn a_slotOut wa a_document a_draft a_draftDocument a_runKinds a_runLengths := by
  intro n
  induction n with
  | zero => intro i wa _ h; exact absurd h (Nat.not_lt_zero _)
  | succ n ih =>
    intro i wa hi hn hw
    refine pk_le k i (fun h => nm_r (nI_add _ _) (nm_r (nI_add _ _) ?_)) (fun h => ?_)
    · have : i = k := by omega
      subst this
      exact hp wa hw
    · refine ⟨pk_in (wk.length + i) 40 (by omega) (nI_add _ _), nm_r (e' := upd wa (wk.length + i) (nI (td_cx (10 + (us + i))))) (by rw [nI_add, nI_add, nI_clamp (by omega), td_cx10]) (nm_r (nI_1 _) (ih (i + 1) _ (by omega) (by omega) ?_))⟩
      have := td_dWp (t := 10 + (us + i)) hw
      rw [List.length_append, td_rg_len] at this
      rw [td_rg_end, ← List.append_assoc]
      exact this
theorem td_ykeep {post : Int32 → SY → Prop} {us k : Nat} {wk : List Nat} (hl : wk.length + k ≤ 40) (hus : us + k ≤ 40) (hp : ∀ wa, td_dY (wk ++ td_rg (fun p => 10 + p) us k) wa → post (nI (wk.length + k)) (y_workIn, nI (us + k), nI (wk.length + k), y_length, y_size, y_printed, b_out, b_outLen, b_inLen, wa, b_doc, b_result, b_print)) : ∀ n i wa, i ≤ k → k - i < n → td_dY (wk ++ td_rg (fun p => 10 + p) us i) wa → wY_keep_39 post (nI k) y_workIn y_length y_size y_printed n (nI i) (nI (us + i)) (nI (wk.length + i)) b_out b_outLen b_inLen wa b_doc b_result b_print := by
  intro n
  induction n with
  | zero => intro i wa _ h; exact absurd h (Nat.not_lt_zero _)
  | succ n ih =>
    intro i wa hi hn hw
    refine pk_le k i (fun h => ?_) (fun h => ?_)
    · have : i = k := by omega
      subst this
      exact hp wa hw
    · refine ⟨vp_in_nI (by omega) (by decide), nm_r (e' := upd wa (wk.length + i) (nI (10 + (us + i)))) (by rw [nI_clamp (by omega), td_10]) (nm_r (nI_1 _) (nm_r (nI_1 _) (nm_r (nI_1 _) (ih (i + 1) _ (by omega) (by omega) ?_))))⟩
      have := td_dYp (t := 10 + (us + i)) hw
      rw [List.length_append, td_rg_len] at this
      rw [td_rg_end, ← List.append_assoc]
      exact this
end
theorem i_vc_keep {k : Nat} {u : SX} {v : SY} (I : i_Rel k u v) (hk : k + 5 ≤ 2560) (v1 : Int32) : wpX_keep (fun r u' => wpY_keep (fun r' v' => r' = r ∧ i_Rel (k + 5) u' v') v v1) u v1 := by
  obtain ⟨f_workIn, f_workOut, f_workUsed, f_documentLength, f_draftLength, f_runCount, a_slotItems, a_slotIn, a_slotOut, a_workItems, a_document, a_draft, a_draftDocument, a_runKinds, a_runLengths⟩ := u
  obtain ⟨y_workIn, y_used, y_items, y_length, y_size, y_printed, b_out, b_outLen, b_inLen, b_work, b_doc, b_result, b_print⟩ := v
  by_cases h0 : 1 ≤ v1
  · obtain ⟨j, hj, hj2, rfl⟩ := td_ge1 h0
    have I2 := I
    obtain ⟨wi, us, wk, dc, inn, g, hK, hG, ⟨rfl, rfl, rfl, rfl, hX, hw, hd⟩, rfl, rfl, rfl, rfl, hY, hw2, hd2⟩ := I
    obtain ⟨k1, k2, k3, k4, k5⟩ := hK
    refine br_t h0 (pk_le j (wi - us) (fun h => ?_) (fun h => ?_) rfl (pk_sub k1))
    · refine pk_le j (40 - wk.length) (fun h2 => ⟨j + 1, ?_⟩) (fun h2 => ?_) rfl (pk_sub (a := 40) k3)
      · refine td_xkeep (by omega) (by omega) (fun wa hwa => ?_) (j + 1) 0 _ (Nat.zero_le _) (by omega) (by rw [show td_rg (fun p => 10 + p) us 0 = [] from rfl, List.append_nil]; exact hw)
        refine br_t h0 (pk_le j (wi - us) (fun _ => ?_) (fun h => absurd h (by omega)) rfl (pk_sub k1))
        refine pk_le (wk.length + j) 40 (fun h2 => ⟨j + 1, ?_⟩) (fun h2 => absurd h2 (by omega)) (nI_add _ _)
        refine td_ykeep (by omega) (by omega) (fun wb hwb => ?_) (j + 1) 0 _ (Nat.zero_le _) (by omega) (by rw [show td_rg (fun p => 10 + p) us 0 = [] from rfl, List.append_nil]; exact hw2)
        refine ⟨rfl, ?_⟩
        have hl : (wk ++ td_rg (fun p => 10 + p) us j).length = wk.length + j := by rw [List.length_append, td_rg_len]
        rw [← hl]
        exact td_mk ⟨by omega, k2, by omega, td_rg_wfK j wk us k4, k5⟩ hG hX hwa hd hY hwb hd2
      · refine br_t h0 (pk_le j (wi - us) (fun _ => ?_) (fun h => absurd h (by omega)) rfl (pk_sub k1))
        refine pk_le (wk.length + j) 40 (fun h2 => absurd h2 (by omega)) (fun h2 => ⟨rfl, I2⟩) (nI_add _ _)
    · refine br_t h0 (pk_le j (wi - us) (fun h => absurd h (by omega)) (fun h => ?_) rfl (pk_sub k1))
      exact ⟨rfl, I2⟩
  · exact br_f h0 (br_f h0 ⟨rfl, I⟩)
/-! cells of the slots -/
theorem td_xn1 {t : Nat} (h : t < 10) {post : Int32 → Prop} (hp : post 1) : wpX_isNew post (nI (td_cx t)) := by
  rw [td_cxN h]
  exact pk_lt (100 + t) 100 (fun z => absurd z (by omega)) (fun _ => hp)
theorem td_xn0 {t : Nat} (h : 10 ≤ t) (h2 : t < 60) {post : Int32 → Prop} (hp : post 0) : wpX_isNew post (nI (td_cx t)) := by
  rw [td_cxK h]
  exact pk_lt (t - 10) 100 (fun _ => hp) (fun z => absurd z (by omega))
section
variable {inn : Nat → Nat} {g : Nat → List Nat} {si sn so : Nat → Int32} {s i : Nat}
theorem td_cI (hG : td_SG inn g) (hs : s < 4) (hi : i < (g s).length) : vp_in (nI s * 40 + nI i) 160 :=
  pk_in (s * 40 + i) 160 (by have := (hG s hs).2.1; omega) (td_ix _ _)
theorem td_cX (hX : td_SX inn g si sn so) (hG : td_SG inn g) (hs : s < 4) (hi : i < (g s).length) : si (nI s * 40 + nI i).toNatClampNeg = nI (td_cx (td_gt (g s) i)) := by
  rw [td_ix, nI_clamp (by have := (hG s hs).2.1; omega)]
  exact hX.1 s i hs hi
theorem td_cY (hY : td_SY inn g si so sn) (hG : td_SG inn g) (hs : s < 4) (hi : i < (g s).length) : si (nI s * 40 + nI i).toNatClampNeg = nI (td_gt (g s) i) := by
  rw [td_ix, nI_clamp (by have := (hG s hs).2.1; omega)]
  exact hY.1 s i hs hi
theorem td_oX (hX : td_SX inn g si sn so) (hs : s < 4) : so (nI s).toNatClampNeg = nI (g s).length := by
  rw [nI_clamp (by omega)]; exact hX.2.2 s hs
theorem td_oY (hY : td_SY inn g si so sn) (hs : s < 4) : so (nI s).toNatClampNeg = nI (g s).length := by
  rw [nI_clamp (by omega)]; exact hY.2.2 s hs
theorem td_nX (hX : td_SX inn g si sn so) (hs : s < 4) : sn (nI s).toNatClampNeg = nI (inn s) := by
  rw [nI_clamp (by omega)]; exact hX.2.1 s hs
theorem td_nY (hY : td_SY inn g si so sn) (hs : s < 4) : sn (nI s).toNatClampNeg = nI (inn s) := by
  rw [nI_clamp (by omega)]; exact hY.2.1 s hs
theorem td_g60 (hG : td_SG inn g) (hs : s < 4) (hi : i < (g s).length) : td_gt (g s) i < 50 := by
  have h1 := (hG s hs).2.2.1 i hi
  have h2 := (hG s hs).1
  omega
theorem td_s4 (hs : s < 4) : vp_in (nI s) 4 := vp_in_nI hs (by decide)
end
def td_uN (f : Nat → Nat) (to m : Nat) : Nat → Nat := fun s => if s = to then m else f s
def td_uL (g : Nat → List Nat) (to : Nat) (R : List Nat) : Nat → List Nat := fun s => if s = to then R else g s
theorem td_uN_s {f : Nat → Nat} {to m : Nat} : td_uN f to m to = m := if_pos rfl
theorem td_uN_n {f : Nat → Nat} {to m s : Nat} (h : s ≠ to) : td_uN f to m s = f s := if_neg h
theorem td_uL_s {g : Nat → List Nat} {to : Nat} {R : List Nat} : td_uL g to R to = R := if_pos rfl
theorem td_uL_n {g : Nat → List Nat} {to s : Nat} {R : List Nat} (h : s ≠ to) : td_uL g to R s = g s := if_neg h
theorem td_SGu {inn : Nat → Nat} {g : Nat → List Nat} {to m : Nat} {R : List Nat} (hG : td_SG inn g) (hm : m ≤ 40) (hR : R.length ≤ 40) (hw : td_wf m R) : td_SG (td_uN inn to m) (td_uL g to R) := by
  intro s hs
  by_cases z : s = to
  · subst z; rw [td_uN_s, td_uL_s]; exact ⟨hm, hR, hw⟩
  · rw [td_uN_n z, td_uL_n z]; exact hG s hs
section
variable {f_workIn f_workOut f_workUsed f_documentLength f_draftLength f_runCount : Int32} {a_slotItems a_slotIn a_slotOut a_workItems a_document a_draft a_draftDocument a_runKinds a_runLengths : Nat → Int32}
variable {y_workIn y_used y_items y_length y_size y_printed : Int32} {b_out b_outLen b_inLen b_work b_doc b_result b_print : Nat → Int32}
variable {inn : Nat → Nat} {g : Nat → List Nat}
/-! added, same -/
theorem td_added {s : Nat} (hs : s < 4) (hG : td_SG inn g) (hX : td_SX inn g a_slotItems a_slotIn a_slotOut) (hY : td_SY inn g b_out b_outLen b_inLen) (x : Int32) : ∀ n i q, i ≤ (g s).length → (g s).length - i < n → ∃ r, (∀ post : Int32 → Prop, post r → wX_added_14 post (nI s) x f_workIn f_workOut f_workUsed f_documentLength f_draftLength f_runCount a_slotItems a_slotIn a_slotOut a_workItems a_document a_draft a_draftDocument a_runKinds a_runLengths n (nI q) (nI i)) ∧ (∀ post : Int32 → Prop, post r → wY_added_15 post (nI s) x y_workIn y_used y_items y_length y_size y_printed b_out b_outLen b_inLen b_work b_doc b_result b_print n (nI q) (nI i)) := by
  have hL := (hG s hs).2.1
  intro n
  induction n with
  | zero => intro i q _ h; exact absurd h (Nat.not_lt_zero _)
  | succ n ih =>
    intro i q hi hn
    by_cases h : (g s).length ≤ i
    · exact ⟨-4, fun post hp => ⟨td_s4 hs, pk_le (g s).length i (fun _ => hp) (fun z => absurd h (by omega)) (td_oX hX hs)⟩, fun post hp => ⟨td_s4 hs, pk_le (g s).length i (fun _ => hp) (fun z => absurd h (by omega)) (td_oY hY hs)⟩⟩
    · have hi2 : i < (g s).length := by omega
      have h60 := td_g60 hG hs hi2
      by_cases h10 : td_gt (g s) i < 10
      · by_cases hq : nI q = x
        · refine ⟨nI (td_gt (g s) i), fun post hp => ⟨td_s4 hs, pk_le (g s).length i (fun z => absurd z h) (fun _ => ⟨td_cI hG hs hi2, nm_r (td_cX hX hG hs hi2) (td_xn1 h10 (br_f td_10ne (br_t hq ?_)))⟩) (td_oX hX hs)⟩, fun post hp => ⟨td_s4 hs, pk_le (g s).length i (fun z => absurd z h) (fun _ => ⟨td_cI hG hs hi2, ?_⟩) (td_oY hY hs)⟩⟩
          · rw [td_cxN h10, td_s100 (by omega), show 100 + td_gt (g s) i - 100 = td_gt (g s) i from by omega]
            exact hp
          · rw [td_cY hY hG hs hi2]
            exact pk_le 10 (td_gt (g s) i) (fun z => absurd z (by omega)) (fun _ => br_t hq ⟨td_cI hG hs hi2, hp⟩)
        · obtain ⟨r, r1, r2⟩ := ih (i + 1) (q + 1) (by omega) (by omega)
          refine ⟨r, fun post hp => ⟨td_s4 hs, pk_le (g s).length i (fun z => absurd z h) (fun _ => ⟨td_cI hG hs hi2, nm_r (td_cX hX hG hs hi2) (td_xn1 h10 (br_f td_10ne (br_f hq (nm_r (nI_1 _) (nm_r (nI_1 _) (r1 post hp))))))⟩) (td_oX hX hs)⟩, fun post hp => ⟨td_s4 hs, pk_le (g s).length i (fun z => absurd z h) (fun _ => ⟨td_cI hG hs hi2, ?_⟩) (td_oY hY hs)⟩⟩
          rw [td_cY hY hG hs hi2]
          exact pk_le 10 (td_gt (g s) i) (fun z => absurd z (by omega)) (fun _ => br_f hq (nm_r (nI_1 _) (nm_r (nI_1 _) (r2 post hp))))
      · obtain ⟨r, r1, r2⟩ := ih (i + 1) q (by omega) (by omega)
        refine ⟨r, fun post hp => ⟨td_s4 hs, pk_le (g s).length i (fun z => absurd z h) (fun _ => ⟨td_cI hG hs hi2, nm_r (td_cX hX hG hs hi2) (td_xn0 (by omega) (by omega) (br_t rfl (nm_r (nI_1 _) (r1 post hp))))⟩) (td_oX hX hs)⟩, fun post hp => ⟨td_s4 hs, pk_le (g s).length i (fun z => absurd z h) (fun _ => ⟨td_cI hG hs hi2, ?_⟩) (td_oY hY hs)⟩⟩
        rw [td_cY hY hG hs hi2]
        exact pk_le 10 (td_gt (g s) i) (fun _ => nm_r (nI_1 _) (r2 post hp)) (fun z => absurd z (by omega))
theorem td_same {a b : Nat} (ha : a < 4) (hb : b < 4) (hG : td_SG inn g) (hX : td_SX inn g a_slotItems a_slotIn a_slotOut) (hY : td_SY inn g b_out b_outLen b_inLen) (hab : (g a).length = (g b).length) : ∀ n i, i ≤ (g a).length → (g a).length - i < n → ∃ r, (∀ post : Int32 → Prop, post r → wX_same_50 post (nI a) (nI b) f_workIn f_workOut f_workUsed f_documentLength f_draftLength f_runCount a_slotItems a_slotIn a_slotOut a_workItems a_document a_draft a_draftDocument a_runKinds a_runLengths n (nI i)) ∧ (∀ post : Int32 → Prop, post r → wY_same_52 post (nI a) (nI b) y_workIn y_used y_items y_length y_size y_printed b_out b_outLen b_inLen b_work b_doc b_result b_print n (nI i)) := by
  have hL := (hG a ha).2.1
  intro n
  induction n with
  | zero => intro i _ h; exact absurd h (Nat.not_lt_zero _)
  | succ n ih =>
    intro i hi hn
    by_cases h : (g a).length ≤ i
    · exact ⟨1, fun post hp => ⟨td_s4 ha, pk_le (g a).length i (fun _ => hp) (fun z => absurd h (by omega)) (td_oX hX ha)⟩, fun post hp => ⟨td_s4 ha, pk_le (g a).length i (fun _ => hp) (fun z => absurd h (by omega)) (td_oY hY ha)⟩⟩
    · have hi2 : i < (g a).length := by omega
      have hi3 : i < (g b).length := by omega
      have h60 := td_g60 hG ha hi2
      have h61 := td_g60 hG hb hi3
      have c1 := td_cx_lt (t := td_gt (g a) i) (by omega)
      have c2 := td_cx_lt (t := td_gt (g b) i) (by omega)
      by_cases he : td_gt (g a) i = td_gt (g b) i
      · obtain ⟨r, r1, r2⟩ := ih (i + 1) (by omega) (by omega)
        refine ⟨r, fun post hp => ⟨td_s4 ha, pk_le (g a).length i (fun z => absurd z h) (fun _ => ⟨td_cI hG ha hi2, td_cI hG hb hi3, pk_eq (td_cx (td_gt (g a) i)) (td_cx (td_gt (g b) i)) (fun _ => nm_r (nI_1 _) (r1 post hp)) (fun z => absurd (congrArg td_cx he) z) (td_cX hX hG ha hi2) (td_cX hX hG hb hi3)⟩) (td_oX hX ha)⟩, fun post hp => ⟨td_s4 ha, pk_le (g a).length i (fun z => absurd z h) (fun _ => ⟨td_cI hG ha hi2, td_cI hG hb hi3, pk_eq (td_gt (g a) i) (td_gt (g b) i) (fun _ => nm_r (nI_1 _) (r2 post hp)) (fun z => absurd he z) (td_cY hY hG ha hi2) (td_cY hY hG hb hi3)⟩) (td_oY hY ha)⟩⟩
      · refine ⟨0, fun post hp => ⟨td_s4 ha, pk_le (g a).length i (fun z => absurd z h) (fun _ => ⟨td_cI hG ha hi2, td_cI hG hb hi3, pk_eq (td_cx (td_gt (g a) i)) (td_cx (td_gt (g b) i)) (fun z => absurd ((td_cx_inj (by omega) (by omega)).mp z) he) (fun _ => hp) (td_cX hX hG ha hi2) (td_cX hX hG hb hi3)⟩) (td_oX hX ha)⟩, fun post hp => ⟨td_s4 ha, pk_le (g a).length i (fun z => absurd z h) (fun _ => ⟨td_cI hG ha hi2, td_cI hG hb hi3, pk_eq (td_gt (g a) i) (td_gt (g b) i) (fun z => absurd z he) (fun _ => hp) (td_cY hY hG ha hi2) (td_cY hY hG hb hi3)⟩) (td_oY hY ha)⟩⟩
end
theorem i_vc_added {k : Nat} {u : SX} {v : SY} (I : i_Rel k u v) (hk : k + 5 ≤ 2560) (v1 : Int32) (v2 : Int32) : wpX_added (fun r => wpY_added (fun r' => r' = r ∧ i_Rel (k + 5) u v) v v1 v2) u v1 v2 := by
  obtain ⟨f_workIn, f_workOut, f_workUsed, f_documentLength, f_draftLength, f_runCount, a_slotItems, a_slotIn, a_slotOut, a_workItems, a_document, a_draft, a_draftDocument, a_runKinds, a_runLengths⟩ := u
  obtain ⟨y_workIn, y_used, y_items, y_length, y_size, y_printed, b_out, b_outLen, b_inLen, b_work, b_doc, b_result, b_print⟩ := v
  have I2 := I
  obtain ⟨wi, us, wk, dc, inn, g, hK, hG, ⟨rfl, rfl, rfl, rfl, hX, hw, hd⟩, rfl, rfl, rfl, rfl, hY, hw2, hd2⟩ := I
  unfold wpX_added wpY_added
  rcases td_slot v1 with ⟨s, hs, rfl⟩ | ⟨hx, hy⟩
  · obtain ⟨r, r1, r2⟩ := td_added hs hG hX hY v2 ((g s).length + 1) 0 0 (Nat.zero_le _) (by omega)
    exact td_xs1 hs (br_f td_10ne ⟨_, r1 _ (td_ys1 hs (br_f td_10ne ⟨_, r2 _ ⟨rfl, I2⟩⟩))⟩)
  · exact hx _ (br_t rfl (hy _ _ (br_t rfl ⟨rfl, I2⟩)))
theorem i_vc_same {k : Nat} {u : SX} {v : SY} (I : i_Rel k u v) (hk : k + 5 ≤ 2560) (v1 : Int32) (v2 : Int32) : wpX_same (fun r => wpY_same (fun r' => r' = r ∧ i_Rel (k + 5) u v) v v1 v2) u v1 v2 := by
  obtain ⟨f_workIn, f_workOut, f_workUsed, f_documentLength, f_draftLength, f_runCount, a_slotItems, a_slotIn, a_slotOut, a_workItems, a_document, a_draft, a_draftDocument, a_runKinds, a_runLengths⟩ := u
  obtain ⟨y_workIn, y_used, y_items, y_length, y_size, y_printed, b_out, b_outLen, b_inLen, b_work, b_doc, b_result, b_print⟩ := v
  have I2 := I
  obtain ⟨wi, us, wk, dc, inn, g, hK, hG, ⟨rfl, rfl, rfl, rfl, hX, hw, hd⟩, rfl, rfl, rfl, rfl, hY, hw2, hd2⟩ := I
  unfold wpX_same wpY_same
  rcases td_slot v1 with ⟨a, ha, rfl⟩ | ⟨hx, hy⟩
  · rcases td_slot v2 with ⟨b, hb, rfl⟩ | ⟨hx, hy⟩
    · have b1 := (hG a ha).1
      have b2 := (hG b hb).1
      have b3 := (hG a ha).2.1
      have b4 := (hG b hb).2.1
      refine td_xs1 ha (br_f td_10ne (td_xs1 hb (br_f td_10ne ⟨td_s4 ha, td_s4 hb, pk_eq (inn a) (inn b) (fun e1 => ⟨td_s4 ha, td_s4 hb, pk_eq (g a).length (g b).length (fun e2 => ?_) (fun e2 => ?_) (td_oX hX ha) (td_oX hX hb)⟩) (fun e1 => ?_) (td_nX hX ha) (td_nX hX hb)⟩)))
      · obtain ⟨r, r1, r2⟩ := td_same ha hb hG hX hY e2 ((g a).length + 1) 0 (Nat.zero_le _) (by omega)
        refine ⟨_, r1 _ ?_⟩
        refine td_ys1 ha (br_f td_10ne (td_ys1 hb (br_f td_10ne ⟨td_s4 ha, td_s4 hb, pk_eq (inn a) (inn b) (fun e1 => ⟨td_s4 ha, td_s4 hb, pk_eq (g a).length (g b).length (fun e2 => ⟨_, r2 _ ⟨rfl, I2⟩⟩) (fun z => absurd e2 z) (td_oY hY ha) (td_oY hY hb)⟩) (fun z => absurd e1 z) (td_nY hY ha) (td_nY hY hb)⟩)))
      · refine td_ys1 ha (br_f td_10ne (td_ys1 hb (br_f td_10ne ⟨td_s4 ha, td_s4 hb, pk_eq (inn a) (inn b) (fun e1 => ⟨td_s4 ha, td_s4 hb, pk_eq (g a).length (g b).length (fun z => absurd z e2) (fun _ => ⟨rfl, I2⟩) (td_oY hY ha) (td_oY hY hb)⟩) (fun z => absurd e1 z) (td_nY hY ha) (td_nY hY hb)⟩)))
      · refine td_ys1 ha (br_f td_10ne (td_ys1 hb (br_f td_10ne ⟨td_s4 ha, td_s4 hb, pk_eq (inn a) (inn b) (fun z => absurd z e1) (fun _ => ⟨rfl, I2⟩) (td_nY hY ha) (td_nY hY hb)⟩)))
    · exact td_xs1 ha (br_f td_10ne (hx _ (br_t rfl (td_ys1 ha (br_f td_10ne (hy _ _ (br_t rfl ⟨rfl, I2⟩)))))))
  · exact hx _ (br_t rfl (hy _ _ (br_t rfl ⟨rfl, I2⟩)))
