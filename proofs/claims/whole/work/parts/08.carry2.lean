def td_M (fl : Int32) (A B : List Nat) : Nat → Nat → Nat → Nat → List Nat → List Nat
  | 0, _, _, _, R => R
  | d + 1, G, pa, pb, R => td_M fl A B d (G + 1) (td_e A (td_nx A G pa)) (td_e B (td_nx B G pb)) (td_nR fl A B R G pa pb)
theorem td_Mp {fl : Int32} {A B : List Nat} (hiA : td_inc (td_gt A) A.length) (hiB : td_inc (td_gt B) B.length) : ∀ d G pa pb R, td_At (td_gt A) A.length G pa → td_At (td_gt B) B.length G pb → td_wf pb R → R.length ≤ pa + pb → td_wf B.length (td_M fl A B d G pa pb R) ∧ (td_M fl A B d G pa pb R).length ≤ A.length + B.length := by
  intro d
  induction d with
  | zero =>
    intro G pa pb R hA hB hw hl
    have h1 := hA.1
    have h2 := hB.1
    exact ⟨td_wfM hw h2, by show R.length ≤ _; omega⟩
  | succ d ih =>
    intro G pa pb R hA hB hw hl
    exact ih _ _ _ _ (td_nxAt hiA hA) (td_nxAt hiB hB) (td_nRw hiA hiB hA hB hw) (td_nRl hiA hiB hA hB hl).2
def td_m0 (fl : Int32) (A B : List Nat) : List Nat := td_bo fl [] (td_rg (td_gt A) 0 (td_e A 0 - 0)) (td_rg (fun p => 10 + p) 0 (td_e B 0 - 0))
def td_mg (fl : Int32) (A B : List Nat) (m : Nat) : List Nat := td_M fl A B m 0 (td_e A 0) (td_e B 0) (td_m0 fl A B)
theorem td_At0 {L : List Nat} : td_At (td_gt L) L.length 0 (td_e L 0) := td_AtE (td_Be0 _ _) (td_eP (Nat.zero_le _))
theorem td_m0w {fl : Int32} {A B : List Nat} : td_wf (td_e B 0) (td_m0 fl A B) := td_gapW (Nat.zero_le _) (Nat.zero_le _) (td_wf0 _)
theorem td_m0l {fl : Int32} {A B : List Nat} : (td_m0 fl A B).length ≤ td_e A 0 + td_e B 0 := by
  unfold td_m0
  rw [td_bo_len, td_rg_len, td_rg_len]
  show 0 + _ + _ ≤ _
  omega
theorem td_mgp {fl : Int32} {A B : List Nat} {m : Nat} (hiA : td_inc (td_gt A) A.length) (hiB : td_inc (td_gt B) B.length) : td_wf B.length (td_mg fl A B m) ∧ (td_mg fl A B m).length ≤ A.length + B.length :=
  td_Mp hiA hiB m 0 _ _ _ td_At0 td_At0 td_m0w td_m0l
section
variable {f_workIn f_workOut f_workUsed f_documentLength f_draftLength f_runCount : Int32} {a_slotItems a_slotIn a_slotOut a_workItems a_document a_draft a_draftDocument a_runKinds a_runLengths : Nat → Int32}
variable {y_workIn y_used y_items y_length y_size y_printed : Int32} {b_out b_outLen b_inLen b_work b_doc b_result b_print : Nat → Int32}
variable {inn : Nat → Nat} {g : Nat → List Nat}
theorem td_xloop {post : SX → Prop} {a b m : Nat} {fl : Int32} (ha : a < 4) (hb : b < 4) (hG : td_SG inn g) (hX : td_SX inn g a_slotItems a_slotIn a_slotOut) (hm : inn a = m) : ∀ d G pa pb R dr, G + d = m → td_At (td_gt (g a)) (g a).length G pa → td_At (td_gt (g b)) (g b).length G pb → td_dX R dr → (∀ dr', td_dX (td_M fl (g a) (g b) d G pa pb R) dr' → post (f_workIn, f_workOut, f_workUsed, f_documentLength, nI (min 41 (td_M fl (g a) (g b) d G pa pb R).length), f_runCount, a_slotItems, a_slotIn, a_slotOut, a_workItems, a_document, dr', a_draftDocument, a_runKinds, a_runLengths)) → wX_draftCarried_14 post (nI a) (nI b) fl (d + 1) (nI pa) (nI pb) (nI (G + 1)) f_workIn f_workOut f_workUsed f_documentLength (nI (min 41 R.length)) f_runCount a_slotItems a_slotIn a_slotOut a_workItems a_document dr a_draftDocument a_runKinds a_runLengths := by
  have hm4 := (hG a ha).1
  have hiA : td_inc (td_gt (g a)) (g a).length := fun i j h1 h2 h3 => (hG a ha).2.2.2 i j h1 h2 h3
  have hiB : td_inc (td_gt (g b)) (g b).length := fun i j h1 h2 h3 => (hG b hb).2.2.2 i j h1 h2 h3
  intro d
  induction d with
  | zero =>
    intro G pa pb R dr hd0 hA hB hd hp
    exact ⟨td_s4 ha, pk_lt (inn a) (G + 1) (fun _ => hp dr hd) (fun z => absurd z (by omega)) (td_nX hX ha)⟩
  | succ d ih =>
    intro G pa pb R dr hd0 hA hB hd hp
    exact td_xiter ha hb hG hX hm (by omega) hA hB hd (fun dr' hd' => ih (G + 1) _ _ _ dr' (by omega) (td_nxAt hiA hA) (td_nxAt hiB hB) hd' hp)
theorem td_xit0 {post : SX → Prop} {a b n : Nat} {fl : Int32} {dr : Nat → Int32} (ha : a < 4) (hb : b < 4) (hG : td_SG inn g) (hX : td_SX inn g a_slotItems a_slotIn a_slotOut) (hp : ∀ dr', td_dX (td_m0 fl (g a) (g b)) dr' → wX_draftCarried_14 post (nI a) (nI b) fl n (nI (td_e (g a) 0)) (nI (td_e (g b) 0)) (nI (0 + 1)) f_workIn f_workOut f_workUsed f_documentLength (nI (min 41 (td_m0 fl (g a) (g b)).length)) f_runCount a_slotItems a_slotIn a_slotOut a_workItems a_document dr' a_draftDocument a_runKinds a_runLengths) : wX_draftCarried_14 post (nI a) (nI b) fl (n + 1) (nI 0) (nI 0) (nI 0) f_workIn f_workOut f_workUsed f_documentLength (nI (min 41 ([] : List Nat).length)) f_runCount a_slotItems a_slotIn a_slotOut a_workItems a_document dr a_draftDocument a_runKinds a_runLengths := by
  have hm4 := (hG a ha).1
  refine ⟨td_s4 ha, pk_lt (inn a) 0 (fun h => absurd h (Nat.not_lt_zero _)) (fun h => ?_) (td_nX hX ha)⟩
  refine td_xkn0 ha hG hX (Nat.zero_le _) td_0m1 (td_xkn0 hb hG hX (Nat.zero_le _) td_0m1 (br_t rfl ?_))
  exact td_x67 ha hb hG hX (Nat.zero_le _) (Nat.zero_le _) (Or.inl ⟨rfl, rfl⟩) (Or.inl ⟨rfl, rfl⟩) (td_dX0 _) hp
theorem td_xcarry {post : Int32 → SX → Prop} {a b to : Nat} {fl : Int32} (ha : a < 4) (hb : b < 4) (hto : to < 4) (hG : td_SG inn g) (hX : td_SX inn g a_slotItems a_slotIn a_slotOut) (h1 : (td_mg fl (g a) (g b) (inn a)).length ≤ 40 → ∀ dr si sn so, td_SX (td_uN inn to (g b).length) (td_uL g to (td_mg fl (g a) (g b) (inn a))) si sn so → post (nI (td_mg fl (g a) (g b) (inn a)).length) (f_workIn, f_workOut, f_workUsed, f_documentLength, nI (td_mg fl (g a) (g b) (inn a)).length, f_runCount, si, sn, so, a_workItems, a_document, dr, a_draftDocument, a_runKinds, a_runLengths)) (h2 : 40 < (td_mg fl (g a) (g b) (inn a)).length → ∀ d dr, post (-2) (f_workIn, f_workOut, f_workUsed, f_documentLength, d, f_runCount, a_slotItems, a_slotIn, a_slotOut, a_workItems, a_document, dr, a_draftDocument, a_runKinds, a_runLengths)) : wX_carry_54 post (nI b) (nI to) fl (nI b) (nI a) f_workIn f_workOut f_workUsed f_documentLength f_draftLength f_runCount a_slotItems a_slotIn a_slotOut a_workItems a_document a_draft a_draftDocument a_runKinds a_runLengths := by
  refine ⟨inn a + 1 + 1, td_xit0 ha hb hG hX (fun dr hd => ?_)⟩
  refine td_xloop ha hb hG hX rfl (inn a) 0 _ _ _ dr (by omega) td_At0 td_At0 hd (fun dr' hd' => ?_)
  refine pk_le (min 41 (td_mg fl (g a) (g b) (inn a)).length) 40 (fun h => ⟨td_s4 hb, ?_⟩) (fun h => h2 (by omega) _ _)
  rw [td_oX hX hb]
  exact td_xstore hto (by show (td_mg fl (g a) (g b) (inn a)).length ≤ 40; omega) hG hd' hX (fun si sn so hS => h1 (by omega) dr' si sn so hS)
theorem td_yloop {post : Int32 → SY → Prop} {a b to m : Nat} {fl x3 : Int32} (ha : a < 4) (hb : b < 4) (hto : to < 4) (hG : td_SG inn g) (hY : td_SY inn g b_out b_outLen b_inLen) (hf : (x3 = 0 ∧ fl = 0) ∨ (¬ x3 = 0 ∧ fl = 1)) (hm : inn a = m) : ∀ d G pa pb R re, G + d = m → td_At (td_gt (g a)) (g a).length G pa → td_At (td_gt (g b)) (g b).length G pb → td_wf pb R → R.length ≤ pa + pb → td_dY R re → ((td_M fl (g a) (g b) d G pa pb R).length ≤ 40 → ∀ re si so sn, td_SY (td_uN inn to (g b).length) (td_uL g to (td_M fl (g a) (g b) d G pa pb R)) si so sn → post (nI (td_M fl (g a) (g b) d G pa pb R).length) (y_workIn, y_used, y_items, y_length, nI (td_M fl (g a) (g b) d G pa pb R).length, y_printed, si, so, sn, b_work, b_doc, re, b_print)) → (40 < (td_M fl (g a) (g b) d G pa pb R).length → ∀ d re, post (-2) (y_workIn, y_used, y_items, y_length, d, y_printed, b_out, b_outLen, b_inLen, b_work, b_doc, re, b_print)) → wY_carry_69 post (nI a) (nI b) x3 (nI to) (d + 1) (nI G) y_workIn y_used y_items y_length (nI R.length) y_printed b_out b_outLen b_inLen b_work b_doc re b_print := by
  have hm4 := (hG a ha).1
  have hLa := (hG a ha).2.1
  have hLb := (hG b hb).2.1
  have hiA : td_inc (td_gt (g a)) (g a).length := fun i j h1 h2 h3 => (hG a ha).2.2.2 i j h1 h2 h3
  have hiB : td_inc (td_gt (g b)) (g b).length := fun i j h1 h2 h3 => (hG b hb).2.2.2 i j h1 h2 h3
  intro d
  induction d with
  | zero =>
    intro G pa pb R re hd0 hA hB hw hl hd h1 h2
    have l1 := hA.1
    have l2 := hB.1
    refine ⟨td_s4 ha, pk_le (inn a) G (fun _ => ?_) (fun z => absurd z (by omega)) (td_nY hY ha)⟩
    refine pk_le R.length 40 (fun h => ⟨td_s4 hb, ?_⟩) (fun h => h2 h _ _)
    rw [td_oY hY hb]
    exact td_yput hto h hG hd hY (fun si so sn hS => h1 h re si so sn hS)
  | succ d ih =>
    intro G pa pb R re hd0 hA hB hw hl hd h1 h2
    exact td_yiter ha hb hG hY hf hm (by omega) hA hB hl hd (fun re' hd' => ih (G + 1) _ _ _ re' (by omega) (td_nxAt hiA hA) (td_nxAt hiB hB) (td_nRw hiA hiB hA hB hw) (td_nRl hiA hiB hA hB hl).2 hd' h1 h2)
theorem td_ycarry {post : Int32 → SY → Prop} {a b to : Nat} {fl x3 : Int32} {re : Nat → Int32} (ha : a < 4) (hb : b < 4) (hto : to < 4) (hG : td_SG inn g) (hY : td_SY inn g b_out b_outLen b_inLen) (hf : (x3 = 0 ∧ fl = 0) ∨ (¬ x3 = 0 ∧ fl = 1)) (h1 : (td_mg fl (g a) (g b) (inn a)).length ≤ 40 → ∀ re si so sn, td_SY (td_uN inn to (g b).length) (td_uL g to (td_mg fl (g a) (g b) (inn a))) si so sn → post (nI (td_mg fl (g a) (g b) (inn a)).length) (y_workIn, y_used, y_items, y_length, nI (td_mg fl (g a) (g b) (inn a)).length, y_printed, si, so, sn, b_work, b_doc, re, b_print)) (h2 : 40 < (td_mg fl (g a) (g b) (inn a)).length → ∀ d re, post (-2) (y_workIn, y_used, y_items, y_length, d, y_printed, b_out, b_outLen, b_inLen, b_work, b_doc, re, b_print)) : wY_carry_63 post (nI a) (nI b) x3 (nI to) fl (nI 0) (nI b) (nI a) y_workIn y_used y_items y_length (nI ([] : List Nat).length) y_printed b_out b_outLen b_inLen b_work b_doc re b_print := by
  have hLa := (hG a ha).2.1
  have hLb := (hG b hb).2.1
  have hiA : td_inc (td_gt (g a)) (g a).length := fun i j h1 h2 h3 => (hG a ha).2.2.2 i j h1 h2 h3
  have hiB : td_inc (td_gt (g b)) (g b).length := fun i j h1 h2 h3 => (hG b hb).2.2.2 i j h1 h2 h3
  have eA := td_eP (L := g a) (p := 0) (Nat.zero_le _)
  have eB := td_eP (L := g b) (p := 0) (Nat.zero_le _)
  have gA := td_gap hiA (td_Be0 _ _) eA
  have gB := td_gap hiB (td_Be0 _ _) eB
  have l2 := eA.2.1
  have l4 := eB.2.1
  refine td_yboth ha hb hG hY (by omega) eA.1 eA.2.1 gA eB.1 eB.2.1 gB (by show 0 + _ + _ ≤ 80; omega) (td_dY0 _) (fun re' hd' => ⟨inn a + 1, ?_⟩)
  exact td_yloop ha hb hto hG hY hf rfl (inn a) 0 _ _ (td_m0 fl (g a) (g b)) re' (by omega) td_At0 td_At0 td_m0w td_m0l hd' h1 h2
end
theorem i_vc_carry {k : Nat} {u : SX} {v : SY} (I : i_Rel k u v) (hk : k + 5 ≤ 2560) (v1 : Int32) (v2 : Int32) (v3 : Int32) (v4 : Int32) : wpX_carry (fun r u' => wpY_carry (fun r' v' => r' = r ∧ i_Rel (k + 5) u' v') v v1 v2 v3 v4) u v1 v2 v3 v4 := by
  obtain ⟨f_workIn, f_workOut, f_workUsed, f_documentLength, f_draftLength, f_runCount, a_slotItems, a_slotIn, a_slotOut, a_workItems, a_document, a_draft, a_draftDocument, a_runKinds, a_runLengths⟩ := u
  obtain ⟨y_workIn, y_used, y_items, y_length, y_size, y_printed, b_out, b_outLen, b_inLen, b_work, b_doc, b_result, b_print⟩ := v
  have I2 := I
  obtain ⟨wi, us, wk, dc, inn, g, hK, hG, ⟨rfl, rfl, rfl, rfl, hX, hw, hd⟩, rfl, rfl, rfl, rfl, hY, hw2, hd2⟩ := I
  unfold wpX_carry wpY_carry
  rcases td_slot v1 with ⟨a, ha, rfl⟩ | ⟨hx, hy⟩
  · rcases td_slot v2 with ⟨b, hb, rfl⟩ | ⟨hx, hy⟩
    · rcases td_slot v4 with ⟨c, hc, rfl⟩ | ⟨hx, hy⟩
      · have b1 := (hG a ha).1
        have b2 := (hG b hb).1
        have b3 := (hG a ha).2.1
        have b4 := (hG b hb).2.1
        have hiA : td_inc (td_gt (g a)) (g a).length := fun i j h1 h2 h3 => (hG a ha).2.2.2 i j h1 h2 h3
        have hiB : td_inc (td_gt (g b)) (g b).length := fun i j h1 h2 h3 => (hG b hb).2.2.2 i j h1 h2 h3
        refine td_xs1 ha (br_f td_10ne (td_xs1 hb (br_f td_10ne (td_xs1 hc (br_f td_10ne ⟨td_s4 ha, td_s4 hb, pk_eq (inn a) (inn b) (fun e => ?_) (fun e => ?_) (td_nX hX ha) (td_nX hX hb)⟩)))))
        · by_cases h3 : v3 = 0
          · refine br_t h3 (td_xcarry ha hb hc hG hX (fun hl dr si sn so hS => ?_) (fun hl d dr => ?_))
            · refine td_ys1 ha (br_f td_10ne (td_ys1 hb (br_f td_10ne (td_ys1 hc (br_f td_10ne ⟨td_s4 ha, td_s4 hb, pk_eq (inn a) (inn b) (fun _ => br_t h3 ?_) (fun z => absurd e z) (td_nY hY ha) (td_nY hY hb)⟩)))))
              refine td_ycarry (fl := 0) ha hb hc hG hY (Or.inl ⟨h3, rfl⟩) (fun _ re ti tn to hT => ⟨rfl, ?_⟩) (fun z => absurd hl (by omega))
              exact td_mk hK (td_SGu hG b4 hl (td_mgp hiA hiB).1) hS hw hd hT hw2 hd2
            · refine td_ys1 ha (br_f td_10ne (td_ys1 hb (br_f td_10ne (td_ys1 hc (br_f td_10ne ⟨td_s4 ha, td_s4 hb, pk_eq (inn a) (inn b) (fun _ => br_t h3 ?_) (fun z => absurd e z) (td_nY hY ha) (td_nY hY hb)⟩)))))
              refine td_ycarry (fl := 0) ha hb hc hG hY (Or.inl ⟨h3, rfl⟩) (fun z => absurd hl (by omega)) (fun _ d re => ⟨rfl, ?_⟩)
              exact td_mk hK hG hX hw hd hY hw2 hd2
          · refine br_f h3 (td_xcarry ha hb hc hG hX (fun hl dr si sn so hS => ?_) (fun hl d dr => ?_))
            · refine td_ys1 ha (br_f td_10ne (td_ys1 hb (br_f td_10ne (td_ys1 hc (br_f td_10ne ⟨td_s4 ha, td_s4 hb, pk_eq (inn a) (inn b) (fun _ => br_f h3 ?_) (fun z => absurd e z) (td_nY hY ha) (td_nY hY hb)⟩)))))
              refine td_ycarry (fl := 1) ha hb hc hG hY (Or.inr ⟨h3, rfl⟩) (fun _ re ti tn to hT => ⟨rfl, ?_⟩) (fun z => absurd hl (by omega))
              exact td_mk hK (td_SGu hG b4 hl (td_mgp hiA hiB).1) hS hw hd hT hw2 hd2
            · refine td_ys1 ha (br_f td_10ne (td_ys1 hb (br_f td_10ne (td_ys1 hc (br_f td_10ne ⟨td_s4 ha, td_s4 hb, pk_eq (inn a) (inn b) (fun _ => br_f h3 ?_) (fun z => absurd e z) (td_nY hY ha) (td_nY hY hb)⟩)))))
              refine td_ycarry (fl := 1) ha hb hc hG hY (Or.inr ⟨h3, rfl⟩) (fun z => absurd hl (by omega)) (fun _ d re => ⟨rfl, ?_⟩)
              exact td_mk hK hG hX hw hd hY hw2 hd2
        · exact td_ys1 ha (br_f td_10ne (td_ys1 hb (br_f td_10ne (td_ys1 hc (br_f td_10ne ⟨td_s4 ha, td_s4 hb, pk_eq (inn a) (inn b) (fun z => absurd z e) (fun _ => ⟨rfl, I2⟩) (td_nY hY ha) (td_nY hY hb)⟩)))))
      · exact td_xs1 ha (br_f td_10ne (td_xs1 hb (br_f td_10ne (hx _ (br_t rfl (td_ys1 ha (br_f td_10ne (td_ys1 hb (br_f td_10ne (hy _ _ (br_t rfl ⟨rfl, I2⟩)))))))))))
    · exact td_xs1 ha (br_f td_10ne (hx _ (br_t rfl (td_ys1 ha (br_f td_10ne (hy _ _ (br_t rfl ⟨rfl, I2⟩)))))))
  · exact hx _ (br_t rfl (hy _ _ (br_t rfl ⟨rfl, I2⟩)))
