/-! the way back -/
def td_W (L dc : List Nat) : Nat → Nat → Nat → List Nat → List Nat
  | 0, _, _, R => R
  | d + 1, G, p, R => if p < L.length ∧ td_gt L p = 10 + G then td_W L dc d (G + 1) (td_e L (p + 1)) (R ++ [10 + p]) else td_W L dc d (G + 1) p (R ++ [td_gt dc G])
theorem td_Wk {L dc R : List Nat} {d G p : Nat} (h : p < L.length ∧ td_gt L p = 10 + G) : td_W L dc (d + 1) G p R = td_W L dc d (G + 1) (td_e L (p + 1)) (R ++ [10 + p]) := if_pos h
theorem td_Wd {L dc R : List Nat} {d G p : Nat} (h : ¬ (p < L.length ∧ td_gt L p = 10 + G)) : td_W L dc (d + 1) G p R = td_W L dc d (G + 1) p (R ++ [td_gt dc G]) := if_neg h
theorem td_AtK {L : List Nat} {G p : Nat} (hi : td_inc (td_gt L) L.length) (h : td_At (td_gt L) L.length G p) (hk : p < L.length ∧ td_gt L p = 10 + G) : td_At (td_gt L) L.length (G + 1) (td_e L (p + 1)) := by
  have := td_nxAt hi h
  rw [show td_nx L G p = p + 1 from if_pos hk] at this
  exact this
theorem td_Wp {L dc : List Nat} (hi : td_inc (td_gt L) L.length) (hdc : ∀ i, i < dc.length → td_gt dc i < 10) : ∀ d G p R, G + d = dc.length → td_At (td_gt L) L.length G p → td_wf p R → td_wf L.length (td_W L dc d G p R) ∧ (td_W L dc d G p R).length = R.length + d := by
  intro d
  induction d with
  | zero => intro G p R h1 h2 h3; exact ⟨td_wfM h3 h2.1, rfl⟩
  | succ d ih =>
    intro G p R h1 h2 h3
    by_cases z : p < L.length ∧ td_gt L p = 10 + G
    · rw [td_Wk z]
      have e := (td_eP (L := L) (p := p + 1) (by omega)).1
      obtain ⟨i1, i2⟩ := ih (G + 1) _ (R ++ [10 + p]) (by omega) (td_AtK hi h2 z) (td_wfM (td_wfK h3 (Nat.le_refl _)) e)
      exact ⟨i1, by rw [i2, td_len1]; omega⟩
    · rw [td_Wd z]
      obtain ⟨i1, i2⟩ := ih (G + 1) p (R ++ [td_gt dc G]) (by omega) (td_AtD h2 z) (td_wfN h3 (hdc G (by omega)))
      exact ⟨i1, by rw [i2, td_len1]; omega⟩
section
variable {f_workIn f_workOut f_workUsed f_documentLength f_draftLength f_runCount : Int32} {a_slotItems a_slotIn a_slotOut a_workItems a_document a_draft a_draftDocument a_runKinds a_runLengths : Nat → Int32}
variable {y_workIn y_used y_items y_length y_size y_printed : Int32} {b_out b_outLen b_inLen b_work b_doc b_result b_print : Nat → Int32}
variable {inn : Nat → Nat} {g : Nat → List Nat}
theorem td_xway {post : SX → Prop} {s : Nat} {dc : List Nat} (hs : s < 4) (hG : td_SG inn g) (hX : td_SX inn g a_slotItems a_slotIn a_slotOut) (hm : dc.length = inn s) (hdd : td_dY dc a_document) (hdl : ∀ i, i < dc.length → td_gt dc i < 10) : ∀ d G p R dr, G + d = dc.length → td_At (td_gt (g s)) (g s).length G p → td_dX R dr → (∀ dr', td_dX (td_W (g s) dc d G p R) dr' → post (f_workIn, f_workOut, f_workUsed, nI dc.length, nI (min 41 (td_W (g s) dc d G p R).length), f_runCount, a_slotItems, a_slotIn, a_slotOut, a_workItems, a_document, dr', a_draftDocument, a_runKinds, a_runLengths)) → wX_draftWayBack_14 post (nI s) (d + 1) (nI p) (nI G) f_workIn f_workOut f_workUsed (nI dc.length) (nI (min 41 R.length)) f_runCount a_slotItems a_slotIn a_slotOut a_workItems a_document dr a_draftDocument a_runKinds a_runLengths := by
  have hm4 := (hG s hs).1
  have hi : td_inc (td_gt (g s)) (g s).length := fun i j h1 h2 h3 => (hG s hs).2.2.2 i j h1 h2 h3
  intro d
  induction d with
  | zero =>
    intro G p R dr h1 h2 hd hp
    exact pk_le dc.length G (fun _ => hp dr hd) (fun z => absurd z (by omega))
  | succ d ih =>
    intro G p R dr h1 h2 hd hp
    refine pk_le dc.length G (fun z => absurd z (by omega)) (fun _ => td_xkn hs hG hX h2.1 (by omega) (fun k => ?_) (fun k => ?_))
    · rw [td_Wk k] at hp
      refine br_f td_10ne (td_xitem (t := 10 + p) hd (by rw [td_cx10]) (fun dr' hd' => ?_))
      dsimp only
      rw [nI_1 p]
      exact td_xend hs hG hX (by omega) (nm_r (nI_1 _) (ih (G + 1) _ _ dr' (by omega) (td_AtK hi h2 k) hd' hp))
    · rw [td_Wd k] at hp
      refine br_t rfl ⟨vp_in_nI (by omega) (by decide), td_xitem (t := td_gt dc G) hd ?_ (fun dr' hd' => nm_r (nI_1 _) (ih (G + 1) _ _ dr' (by omega) (td_AtD h2 k) hd' hp))⟩
      rw [nI_clamp (by omega), hdd G (by omega), td_100, td_cxN (hdl G (by omega))]
theorem td_xch2 {post : SX → Prop} {N : List Nat} (hN : N.length ≤ 40) (hdd : td_dY N a_draftDocument) (hp : ∀ da, td_dY N da → post (f_workIn, f_workOut, f_workUsed, nI N.length, f_draftLength, f_runCount, a_slotItems, a_slotIn, a_slotOut, a_workItems, da, a_draft, a_draftDocument, a_runKinds, a_runLengths)) : ∀ n i da, i ≤ N.length → N.length - i < n → (∀ j, j < i → da j = nI (td_gt N j)) → wX_changeDocument_68 post f_workIn f_workOut f_workUsed (nI N.length) f_draftLength f_runCount n (nI i) a_slotItems a_slotIn a_slotOut a_workItems da a_draft a_draftDocument a_runKinds a_runLengths := by
  intro n
  induction n with
  | zero => intro i da _ h; exact absurd h (Nat.not_lt_zero _)
  | succ n ih =>
    intro i da hi hn he
    refine pk_le N.length i (fun h => hp da (fun j hj => he j (by omega))) (fun h => ⟨vp_in_nI (by omega) (by decide), vp_in_nI (by omega) (by decide), nm_r (e' := upd da i (nI (td_gt N i))) (by rw [nI_clamp (by omega), hdd i h]) (nm_r (nI_1 _) (ih (i + 1) _ (by omega) (by omega) (fun j hj => ?_)))⟩)
    by_cases z : j = i
    · subst z; rw [pk_us]
    · rw [pk_un z]; exact he j (by omega)
theorem td_xch1 {post : SX → Prop} {s : Nat} {dc : List Nat} (hs : s < 4) (hG : td_SG inn g) (hX : td_SX inn g a_slotItems a_slotIn a_slotOut) (hm : dc.length = inn s) (hdd : td_dY dc a_document) (hp : ∀ da dd, td_dY ((g s).map (td_jn dc)) da → post (f_workIn, f_workOut, f_workUsed, nI (g s).length, f_draftLength, f_runCount, a_slotItems, a_slotIn, a_slotOut, a_workItems, da, a_draft, dd, a_runKinds, a_runLengths)) : ∀ n i dd, i ≤ (g s).length → (g s).length - i < n → td_dY (((g s).take i).map (td_jn dc)) dd → wX_changeDocument_2 post (nI s) f_workIn f_workOut f_workUsed (nI dc.length) f_draftLength f_runCount n (nI i) a_slotItems a_slotIn a_slotOut a_workItems a_document a_draft dd a_runKinds a_runLengths := by
  have hm4 := (hG s hs).1
  have hL := (hG s hs).2.1
  intro n
  induction n with
  | zero => intro i dd _ h; exact absurd h (Nat.not_lt_zero _)
  | succ n ih =>
    intro i dd hi hn hd
    refine ⟨td_s4 hs, pk_le (g s).length i (fun h => ⟨td_s4 hs, nm_r (td_oX hX hs) ⟨(g s).length + 1, ?_⟩⟩) (fun h => ⟨td_cI hG hs h, nm_r (td_cX hX hG hs h) ?_⟩) (td_oX hX hs)⟩
    · rw [show i = (g s).length from by omega, List.take_length] at hd
      have hl : ((g s).map (td_jn dc)).length = (g s).length := List.length_map _
      have := td_xch2 (post := post) (N := (g s).map (td_jn dc)) (a_draftDocument := dd) (by omega) hd (fun da hda => by rw [hl]; exact hp da dd hda) ((g s).length + 1) 0 a_document (Nat.zero_le _) (by omega) (fun j hj => absurd hj (Nat.not_lt_zero _))
      rw [hl] at this
      exact this
    · have h60 := td_g60 hG hs h
      have hwf := (hG s hs).2.2.1 i h
      have hz : (((g s).take i).map (td_jn dc)).length = i := by rw [List.length_map, List.length_take]; omega
      have next : ∀ x, x = nI (td_jn dc (td_gt (g s) i)) → wX_changeDocument_2 post (nI s) f_workIn f_workOut f_workUsed (nI dc.length) f_draftLength f_runCount n (nI (i + 1)) a_slotItems a_slotIn a_slotOut a_workItems a_document a_draft (upd dd i x) a_runKinds a_runLengths := by
        intro x ex
        rw [ex]
        refine ih (i + 1) _ (by omega) (by omega) ?_
        have := td_dYp (t := td_jn dc (td_gt (g s) i)) hd
        rw [hz, ← td_takeM h] at this
        exact this
      by_cases z : td_gt (g s) i < 10
      · refine td_xn1 z (br_f td_10ne ⟨vp_in_nI (by omega) (by decide), nm_r (e' := upd dd i (nI (td_jn dc (td_gt (g s) i)))) ?_ (nm_r (nI_1 _) (next _ rfl))⟩)
        rw [nI_clamp (by omega), td_cxN z, td_s100 (by omega), td_jn, if_pos z, show 100 + td_gt (g s) i - 100 = td_gt (g s) i from by omega]
      · refine td_xn0 (by omega) (by omega) (br_t rfl ?_)
        rw [td_cxK (by omega)]
        refine ⟨vp_in_nI (by omega) (by decide), vp_in_nI (by omega) (by decide), nm_r (e' := upd dd i (nI (td_jn dc (td_gt (g s) i)))) ?_ (nm_r (nI_1 _) (next _ rfl))⟩
        rw [nI_clamp (by omega), nI_clamp (by omega), hdd _ (by omega), td_jn, if_neg z]
theorem td_xwb {post : SX → Prop} {s : Nat} {dc : List Nat} (hs : s < 4) (hG : td_SG inn g) (hX : td_SX inn g a_slotItems a_slotIn a_slotOut) (hm : dc.length = inn s) (hdd : td_dY dc a_document) (hdl : ∀ i, i < dc.length → td_gt dc i < 10) (hp : ∀ dr, td_dX (td_W (g s) dc dc.length 0 (td_e (g s) 0) []) dr → post (f_workIn, f_workOut, f_workUsed, nI dc.length, nI (min 41 (td_W (g s) dc dc.length 0 (td_e (g s) 0) []).length), f_runCount, a_slotItems, a_slotIn, a_slotOut, a_workItems, a_document, dr, a_draftDocument, a_runKinds, a_runLengths)) : wpX_draftWayBack post (f_workIn, f_workOut, f_workUsed, nI dc.length, f_draftLength, f_runCount, a_slotItems, a_slotIn, a_slotOut, a_workItems, a_document, a_draft, a_draftDocument, a_runKinds, a_runLengths) (nI s) := by
  unfold wpX_draftWayBack
  refine td_xend (i := 0) hs hG hX (Nat.zero_le _) ⟨dc.length + 1, ?_⟩
  exact td_xway hs hG hX hm hdd hdl dc.length 0 _ [] _ (by omega) td_At0 (td_dX0 _) hp
theorem td_xchg {post : SX → Prop} {s : Nat} {dc : List Nat} (hs : s < 4) (hG : td_SG inn g) (hX : td_SX inn g a_slotItems a_slotIn a_slotOut) (hm : dc.length = inn s) (hdd : td_dY dc a_document) (hp : ∀ da dd, td_dY ((g s).map (td_jn dc)) da → post (f_workIn, f_workOut, f_workUsed, nI (g s).length, f_draftLength, f_runCount, a_slotItems, a_slotIn, a_slotOut, a_workItems, da, a_draft, dd, a_runKinds, a_runLengths)) : wpX_changeDocument post (f_workIn, f_workOut, f_workUsed, nI dc.length, f_draftLength, f_runCount, a_slotItems, a_slotIn, a_slotOut, a_workItems, a_document, a_draft, a_draftDocument, a_runKinds, a_runLengths) (nI s) :=
  ⟨(g s).length + 1, td_xch1 hs hG hX hm hdd hp _ 0 _ (Nat.zero_le _) (by omega) (td_dY0 _)⟩
theorem td_yap3 {post : Int32 → SY → Prop} {to : Nat} {R N : List Nat} (hto : to < 4) (hR : R.length ≤ 40) (hN : N.length ≤ 40) (hG : td_SG inn g) (hY : td_SY inn g b_out b_outLen b_inLen) (hd : td_dY R b_result) (hpr : td_dY N b_print) (hp : ∀ si so sn da, td_SY (td_uN inn to N.length) (td_uL g to R) si so sn → td_dY N da → post (nI N.length) (y_workIn, y_used, y_items, nI N.length, nI R.length, y_printed, si, so, sn, b_work, da, b_result, b_print)) : ∀ n i da, i ≤ N.length → N.length - i < n → (∀ j, j < i → da j = nI (td_gt N j)) → wY_apply_154 post (nI to) (nI N.length) y_workIn y_used y_items y_length (nI R.length) y_printed n (nI i) b_out b_outLen b_inLen b_work da b_result b_print := by
  intro n
  induction n with
  | zero => intro i da _ h; exact absurd h (Nat.not_lt_zero _)
  | succ n ih =>
    intro i da hi hn he
    refine pk_le N.length i (fun h => ?_) (fun h => ⟨vp_in_nI (by omega) (by decide), vp_in_nI (by omega) (by decide), nm_r (e' := upd da i (nI (td_gt N i))) (by rw [nI_clamp (by omega), hpr i h]) (nm_r (nI_1 _) (ih (i + 1) _ (by omega) (by omega) (fun j hj => ?_)))⟩)
    · exact td_yput hto hR hG hd hY (fun si so sn hS => hp si so sn da hS (fun j hj => he j (by omega)))
    · by_cases z : j = i
      · subst z; rw [pk_us]
      · rw [pk_un z]; exact he j (by omega)
theorem td_yap2 {post : Int32 → SY → Prop} {s to : Nat} {R dc : List Nat} (hs : s < 4) (hto : to < 4) (hR : R.length ≤ 40) (hG : td_SG inn g) (hY : td_SY inn g b_out b_outLen b_inLen) (hm : dc.length = inn s) (hdd : td_dY dc b_doc) (hd : td_dY R b_result) (hp : ∀ si so sn da pr, td_SY (td_uN inn to (g s).length) (td_uL g to R) si so sn → td_dY ((g s).map (td_jn dc)) da → post (nI (g s).length) (y_workIn, y_used, y_items, nI (g s).length, nI R.length, y_printed, si, so, sn, b_work, da, b_result, pr)) : ∀ n i pr, i ≤ (g s).length → (g s).length - i < n → td_dY (((g s).take i).map (td_jn dc)) pr → wY_apply_96 post (nI s) (nI to) (nI (g s).length) y_workIn y_used y_items y_length (nI R.length) y_printed n (nI i) b_out b_outLen b_inLen b_work b_doc b_result pr := by
  have hm4 := (hG s hs).1
  have hL := (hG s hs).2.1
  intro n
  induction n with
  | zero => intro i pr _ h; exact absurd h (Nat.not_lt_zero _)
  | succ n ih =>
    intro i pr hi hn hpr
    refine pk_le (g s).length i (fun h => ⟨(g s).length + 1, ?_⟩) (fun h => ⟨td_cI hG hs h, nm_r (td_cY hY hG hs h) ?_⟩)
    · rw [show i = (g s).length from by omega, List.take_length] at hpr
      have hl : ((g s).map (td_jn dc)).length = (g s).length := List.length_map _
      have := td_yap3 (post := post) (to := to) (R := R) (N := (g s).map (td_jn dc)) (b_print := pr) (y_workIn := y_workIn) (y_used := y_used) (y_items := y_items) (y_length := y_length) (y_printed := y_printed) (b_work := b_work) hto hR (by omega) hG hY hd hpr (fun si so sn da hS hda => by rw [hl] at hS ⊢; exact hp si so sn da pr hS hda) ((g s).length + 1) 0 b_doc (Nat.zero_le _) (by omega) (fun j hj => absurd hj (Nat.not_lt_zero _))
      rw [hl] at this
      exact this
    · have h60 := td_g60 hG hs h
      have hwf := (hG s hs).2.2.1 i h
      have hz : (((g s).take i).map (td_jn dc)).length = i := by rw [List.length_map, List.length_take]; omega
      have next : ∀ x, x = nI (td_jn dc (td_gt (g s) i)) → wY_apply_96 post (nI s) (nI to) (nI (g s).length) y_workIn y_used y_items y_length (nI R.length) y_printed n (nI (i + 1)) b_out b_outLen b_inLen b_work b_doc b_result (upd pr i x) := by
        intro x ex
        rw [ex]
        refine ih (i + 1) _ (by omega) (by omega) ?_
        have := td_dYp (t := td_jn dc (td_gt (g s) i)) hpr
        rw [hz, ← td_takeM h] at this
        exact this
      refine pk_le 10 (td_gt (g s) i) (fun z => ?_) (fun z => ⟨vp_in_nI (by omega) (by decide), nm_r (e' := upd pr i (nI (td_jn dc (td_gt (g s) i)))) ?_ (nm_r (nI_1 _) (next _ rfl))⟩)
      · refine ⟨pk_in (td_gt (g s) i - 10) 40 (by omega) (td_s10 z), vp_in_nI (by omega) (by decide), nm_r (e' := upd pr i (nI (td_jn dc (td_gt (g s) i)))) ?_ (nm_r (nI_1 _) (next _ rfl))⟩
        rw [nI_clamp (by omega), td_s10 z, nI_clamp (by omega), hdd _ (by omega), td_jn, if_neg (by omega)]
      · rw [nI_clamp (by omega), td_jn, if_pos z]
theorem td_yap1 {post : Int32 → SY → Prop} {s to : Nat} {dc : List Nat} (hs : s < 4) (hto : to < 4) (hG : td_SG inn g) (hY : td_SY inn g b_out b_outLen b_inLen) (hm : dc.length = inn s) (hdd : td_dY dc b_doc) (hdl : ∀ i, i < dc.length → td_gt dc i < 10) : ∀ d G p R re, G + d = dc.length → R.length = G → td_At (td_gt (g s)) (g s).length G p → td_dY R re → (∀ re si so sn da pr, td_SY (td_uN inn to (g s).length) (td_uL g to (td_W (g s) dc d G p R)) si so sn → td_dY ((g s).map (td_jn dc)) da → post (nI (g s).length) (y_workIn, y_used, y_items, nI (g s).length, nI (td_W (g s) dc d G p R).length, y_printed, si, so, sn, b_work, da, re, pr)) → wY_apply_41 post (nI s) (nI to) (d + 1) (nI G) y_workIn y_used y_items (nI dc.length) (nI R.length) y_printed b_out b_outLen b_inLen b_work b_doc re b_print := by
  have hm4 := (hG s hs).1
  have hi : td_inc (td_gt (g s)) (g s).length := fun i j h1 h2 h3 => (hG s hs).2.2.2 i j h1 h2 h3
  have hL := (hG s hs).2.1
  intro d
  induction d with
  | zero =>
    intro G p R re h1 hl h2 hd hp
    refine pk_le dc.length G (fun _ => ⟨td_s4 hs, nm_r (td_oY hY hs) ⟨(g s).length + 1, ?_⟩⟩) (fun z => absurd z (by omega))
    exact td_yap2 hs hto (by omega) hG hY hm hdd hd (fun si so sn da pr hS hda => hp re si so sn da pr hS hda) _ 0 _ (Nat.zero_le _) (by omega) (td_dY0 _)
  | succ d ih =>
    intro G p R re h1 hl h2 hd hp
    have hp1 := h2.1
    refine pk_le dc.length G (fun z => absurd z (by omega)) (fun _ => ?_)
    by_cases k : p < (g s).length ∧ td_gt (g s) p = 10 + G
    · rw [td_Wk k] at hp
      refine td_yplK hs hG hY (by omega) k.1 k.2 (td_plK hi h2 k.2) (br_f (nI_pos (by omega)) ?_)
      exact td_yemit hd (by omega) (td_10 _) (fun re' hd' => nm_r (nI_1 _) (ih (G + 1) _ _ re' (by omega) (by rw [td_len1]; omega) (td_AtK hi h2 k) hd' hp))
    · rw [td_Wd k] at hp
      refine td_yplD hs hG hY (by omega) (td_plD hi h2 k) (br_t td_m1neg ⟨vp_in_nI (by omega) (by decide), ?_⟩)
      refine td_yemit (t := td_gt dc G) hd (by omega) ?_ (fun re' hd' => nm_r (nI_1 _) (ih (G + 1) _ _ re' (by omega) (by rw [td_len1]; omega) (td_AtD h2 k) hd' hp))
      rw [nI_clamp (by omega), hdd G (by omega)]
end
theorem i_vc_apply {k : Nat} {u : SX} {v : SY} (I : i_Rel k u v) (hk : k + 5 ≤ 2560) (v1 : Int32) (v2 : Int32) : wpX_apply (fun r u' => wpY_apply (fun r' v' => r' = r ∧ i_Rel (k + 5) u' v') v v1 v2) u v1 v2 := by
  obtain ⟨f_workIn, f_workOut, f_workUsed, f_documentLength, f_draftLength, f_runCount, a_slotItems, a_slotIn, a_slotOut, a_workItems, a_document, a_draft, a_draftDocument, a_runKinds, a_runLengths⟩ := u
  obtain ⟨y_workIn, y_used, y_items, y_length, y_size, y_printed, b_out, b_outLen, b_inLen, b_work, b_doc, b_result, b_print⟩ := v
  have I2 := I
  obtain ⟨wi, us, wk, dc, inn, g, hK, hG, ⟨rfl, rfl, rfl, rfl, hX, hw, hd⟩, rfl, rfl, rfl, rfl, hY, hw2, hd2⟩ := I
  obtain ⟨k1, k2, k3, k4, k5, k6⟩ := hK
  unfold wpX_apply wpY_apply
  rcases td_slot v1 with ⟨s, hs, rfl⟩ | ⟨hx, hy⟩
  · rcases td_slot v2 with ⟨c, hc, rfl⟩ | ⟨hx, hy⟩
    · have b1 := (hG s hs).1
      have b2 := (hG s hs).2.1
      have hi : td_inc (td_gt (g s)) (g s).length := fun i j h1 h2 h3 => (hG s hs).2.2.2 i j h1 h2 h3
      refine td_xs1 hs (br_f td_10ne (td_xs1 hc (br_f td_10ne ⟨td_s4 hs, pk_eq dc.length (inn s) (fun e => ⟨td_s4 hs, nm_r (td_oX hX hs) ?_⟩) (fun e => ?_) rfl (td_nX hX hs)⟩)))
      · obtain ⟨w1, w2⟩ := td_Wp hi k6 dc.length 0 (td_e (g s) 0) [] (by omega) td_At0 (td_wf0 _)
        have w3 : (td_W (g s) dc dc.length 0 (td_e (g s) 0) []).length = dc.length := by rw [w2]; exact Nat.zero_add _
        refine td_xwb hs hG hX e hd k6 (fun dr hdr => ?_)
        refine td_xchg hs hG hX e hd (fun da dd hda => ?_)
        refine td_xstore hc (by omega) hG hdr hX (fun si sn so hS => ?_)
        refine td_ys1 hs (br_f td_10ne (td_ys1 hc (br_f td_10ne ⟨td_s4 hs, pk_eq dc.length (inn s) (fun _ => ⟨dc.length + 1, ?_⟩) (fun z => absurd e z) rfl (td_nY hY hs)⟩)))
        refine td_yap1 hs hc hG hY e hd2 k6 dc.length 0 (td_e (g s) 0) [] _ (by omega) rfl td_At0 (td_dY0 _) (fun re ti tn to db pr hT hdb => ⟨rfl, ?_⟩)
        have hl : ((g s).map (td_jn dc)).length = (g s).length := List.length_map _
        rw [← hl] at hS hT ⊢
        refine td_mk ⟨k1, k2, k3, k4, by omega, fun i hi2 => ?_⟩ (td_SGu hG (by omega) (by omega) (by rw [hl]; exact w1)) hS hw hda hT hw2 hdb
        rw [hl] at hi2
        have hwf := (hG s hs).2.2.1 i hi2
        rw [td_gt_map hi2]
        unfold td_jn
        split
        · assumption
        · exact k6 _ (by omega)
      · exact td_ys1 hs (br_f td_10ne (td_ys1 hc (br_f td_10ne ⟨td_s4 hs, pk_eq dc.length (inn s) (fun z => absurd z e) (fun _ => ⟨rfl, I2⟩) rfl (td_nY hY hs)⟩)))
    · exact td_xs1 hs (br_f td_10ne (hx _ (br_t rfl (td_ys1 hs (br_f td_10ne (hy _ _ (br_t rfl ⟨rfl, I2⟩)))))))
  · exact hx _ (br_t rfl (hy _ _ (br_t rfl ⟨rfl, I2⟩)))
