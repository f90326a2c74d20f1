/-! join: a kept item of b becomes a's item there -/
def td_jn (A : List Nat) (t : Nat) : Nat := if t < 10 then t else td_gt A (t - 10)
theorem td_jnw {m : Nat} {A B : List Nat} (hA : td_wf m A) (hB : td_wf A.length B) : td_wf m (B.map (td_jn A)) := by
  refine ⟨fun i hi => ?_, fun i j hij hj h10 => ?_⟩
  · rw [List.length_map] at hi
    rw [td_gt_map hi]
    unfold td_jn
    split
    · omega
    · exact hA.1 _ (by have := hB.1 i hi; omega)
  · rw [List.length_map] at hj
    rw [td_gt_map (by omega)] at h10 ⊢
    rw [td_gt_map hj]
    have hbi := hB.1 i (by omega)
    have hbj := hB.1 j hj
    unfold td_jn at h10 ⊢
    by_cases z : td_gt B i < 10
    · rw [if_pos z] at h10; omega
    · rw [if_neg z] at h10 ⊢
      by_cases y : td_gt B j < 10
      · rw [if_pos y]; exact Or.inr y
      · rw [if_neg y]
        have := hB.2 i j hij hj (by omega)
        exact hA.2 (td_gt B i - 10) (td_gt B j - 10) (by omega) (by omega) h10
theorem td_takeM {L : List Nat} {c : Nat → Nat} {i : Nat} (h : i < L.length) : (L.take (i + 1)).map c = (L.take i).map c ++ [c (td_gt L i)] := by
  rw [td_take h, List.map_append]; rfl
section
variable {f_workIn f_workOut f_workUsed f_documentLength f_draftLength f_runCount : Int32} {a_slotItems a_slotIn a_slotOut a_workItems a_document a_draft a_draftDocument a_runKinds a_runLengths : Nat → Int32}
variable {y_workIn y_used y_items y_length y_size y_printed : Int32} {b_out b_outLen b_inLen b_work b_doc b_result b_print : Nat → Int32}
variable {inn : Nat → Nat} {g : Nat → List Nat}
theorem td_xjoin {post : Int32 → SX → Prop} {a b to : Nat} (ha : a < 4) (hb : b < 4) (hto : to < 4) (hab : (g a).length = inn b) (hG : td_SG inn g) (hX : td_SX inn g a_slotItems a_slotIn a_slotOut) (hp : ∀ dr si sn so, td_SX (td_uN inn to (inn a)) (td_uL g to ((g b).map (td_jn (g a)))) si sn so → post (nI (g b).length) (f_workIn, f_workOut, f_workUsed, f_documentLength, nI (g b).length, f_runCount, si, sn, so, a_workItems, a_document, dr, a_draftDocument, a_runKinds, a_runLengths)) : ∀ n i dr, i ≤ (g b).length → (g b).length - i < n → td_dX (((g b).take i).map (td_jn (g a))) dr → wX_join_49 post (nI a) (nI b) (nI to) n (nI i) f_workIn f_workOut f_workUsed f_documentLength (nI (min 41 (((g b).take i).map (td_jn (g a))).length)) f_runCount a_slotItems a_slotIn a_slotOut a_workItems a_document dr a_draftDocument a_runKinds a_runLengths := by
  have hL := (hG b hb).2.1
  intro n
  induction n with
  | zero => intro i dr _ h; exact absurd h (Nat.not_lt_zero _)
  | succ n ih =>
    intro i dr hi hn hd
    refine ⟨td_s4 hb, pk_le (g b).length i (fun h => ⟨td_s4 ha, ?_⟩) (fun h => ⟨td_cI hG hb h, nm_r (td_cX hX hG hb h) ?_⟩) (td_oX hX hb)⟩
    · rw [show i = (g b).length from by omega, List.take_length] at hd ⊢
      rw [td_nX hX ha]
      refine td_xstore hto (by rw [List.length_map]; exact hL) hG hd hX (fun si sn so hS => ?_)
      have := hp dr si sn so hS
      rw [List.length_map]
      exact this
    · have h60 := td_g60 hG hb h
      have hwf := (hG b hb).2.2.1 i h
      have next : ∀ x, x = nI (td_cx (td_jn (g a) (td_gt (g b) i))) → wX_join_96 post (wX_join_49 post (nI a) (nI b) (nI to) n) (nI a) (nI b) (nI to) (nI i) x f_workIn f_workOut f_workUsed f_documentLength (nI (min 41 (((g b).take i).map (td_jn (g a))).length)) f_runCount a_slotItems a_slotIn a_slotOut a_workItems a_document dr a_draftDocument a_runKinds a_runLengths := by
        intro x ex
        refine td_xitem hd ex (fun dr' hd' => nm_r (nI_1 _) ?_)
        rw [← td_takeM h] at hd' ⊢
        exact ih (i + 1) dr' (by omega) (by omega) hd'
      by_cases z : td_gt (g b) i < 10
      · refine td_xn1 z (br_f td_10ne (next _ ?_))
        rw [td_jn, if_pos z]
      · refine td_xn0 (by omega) (by omega) (br_t rfl ?_)
        rw [td_cxK (by omega)]
        refine ⟨td_cI hG ha (by omega), nm_r (td_cX hX hG ha (by omega)) (next _ ?_)⟩
        rw [td_jn, if_neg z]
theorem td_yjoin {post : Int32 → SY → Prop} {a b to : Nat} (ha : a < 4) (hb : b < 4) (hto : to < 4) (hab : (g a).length = inn b) (hG : td_SG inn g) (hY : td_SY inn g b_out b_outLen b_inLen) (hp : ∀ re si so sn, td_SY (td_uN inn to (inn a)) (td_uL g to ((g b).map (td_jn (g a)))) si so sn → post (nI (g b).length) (y_workIn, y_used, y_items, y_length, nI (g b).length, y_printed, si, so, sn, b_work, b_doc, re, b_print)) : ∀ n i re, i ≤ (g b).length → (g b).length - i < n → td_dY (((g b).take i).map (td_jn (g a))) re → wY_join_52 post (nI a) (nI b) (nI to) n (nI i) y_workIn y_used y_items y_length (nI (((g b).take i).map (td_jn (g a))).length) y_printed b_out b_outLen b_inLen b_work b_doc re b_print := by
  have hL := (hG b hb).2.1
  intro n
  induction n with
  | zero => intro i re _ h; exact absurd h (Nat.not_lt_zero _)
  | succ n ih =>
    intro i re hi hn hd
    refine ⟨td_s4 hb, pk_le (g b).length i (fun h => ⟨td_s4 ha, ?_⟩) (fun h => ⟨td_cI hG hb h, nm_r (td_cY hY hG hb h) ?_⟩) (td_oY hY hb)⟩
    · rw [show i = (g b).length from by omega, List.take_length] at hd ⊢
      rw [td_nY hY ha]
      refine td_yput hto (by rw [List.length_map]; exact hL) hG hd hY (fun si so sn hS => ?_)
      have := hp re si so sn hS
      rw [List.length_map]
      exact this
    · have h60 := td_g60 hG hb h
      have hwf := (hG b hb).2.2.1 i h
      have hla := (hG a ha).2.1
      have hz : (((g b).take i).map (td_jn (g a))).length = i := by rw [List.length_map, List.length_take]; omega
      have next : ∀ x, x = nI (td_jn (g a) (td_gt (g b) i)) → wY_join_105 post (wY_join_52 post (nI a) (nI b) (nI to) n) (nI a) (nI b) (nI to) (nI i) x y_workIn y_used y_items y_length (nI (((g b).take i).map (td_jn (g a))).length) y_printed b_out b_outLen b_inLen b_work b_doc re b_print := by
        intro x ex
        refine td_yemit hd (by omega) ex (fun re' hd' => nm_r (nI_1 _) ?_)
        rw [← td_takeM h] at hd' ⊢
        exact ih (i + 1) re' (by omega) (by omega) hd'
      refine pk_le 10 (td_gt (g b) i) (fun z => ?_) (fun z => next _ (by rw [td_jn, if_pos z]))
      have e : nI a * 40 + nI (td_gt (g b) i) - 10 = nI a * 40 + nI (td_gt (g b) i - 10) := by
        rw [td_ix, td_ix, td_s10 (by omega), show a * 40 + td_gt (g b) i - 10 = a * 40 + (td_gt (g b) i - 10) from by omega]
      rw [e]
      refine ⟨td_cI hG ha (by omega), next _ ?_⟩
      rw [td_cY hY hG ha (by omega), td_jn, if_neg (by omega)]
end
theorem i_vc_join {k : Nat} {u : SX} {v : SY} (I : i_Rel k u v) (hk : k + 5 ≤ 2560) (v1 : Int32) (v2 : Int32) (v3 : Int32) : wpX_join (fun r u' => wpY_join (fun r' v' => r' = r ∧ i_Rel (k + 5) u' v') v v1 v2 v3) u v1 v2 v3 := by
  obtain ⟨f_workIn, f_workOut, f_workUsed, f_documentLength, f_draftLength, f_runCount, a_slotItems, a_slotIn, a_slotOut, a_workItems, a_document, a_draft, a_draftDocument, a_runKinds, a_runLengths⟩ := u
  obtain ⟨y_workIn, y_used, y_items, y_length, y_size, y_printed, b_out, b_outLen, b_inLen, b_work, b_doc, b_result, b_print⟩ := v
  have I2 := I
  obtain ⟨wi, us, wk, dc, inn, g, hK, hG, ⟨rfl, rfl, rfl, rfl, hX, hw, hd⟩, rfl, rfl, rfl, rfl, hY, hw2, hd2⟩ := I
  unfold wpX_join wpY_join
  rcases td_slot v1 with ⟨a, ha, rfl⟩ | ⟨hx, hy⟩
  · rcases td_slot v2 with ⟨b, hb, rfl⟩ | ⟨hx, hy⟩
    · rcases td_slot v3 with ⟨c, hc, rfl⟩ | ⟨hx, hy⟩
      · have b1 := (hG a ha).2.1
        have b2 := (hG b hb).1
        refine td_xs1 ha (br_f td_10ne (td_xs1 hb (br_f td_10ne (td_xs1 hc (br_f td_10ne ⟨td_s4 ha, td_s4 hb, pk_eq (g a).length (inn b) (fun e => ⟨(g b).length + 1, ?_⟩) (fun e => ?_) (td_oX hX ha) (td_nX hX hb)⟩)))))
        · refine td_xjoin ha hb hc e hG hX (fun dr si sn so hS => ?_) _ 0 _ (Nat.zero_le _) (by omega) (td_dX0 _)
          refine td_ys1 ha (br_f td_10ne (td_ys1 hb (br_f td_10ne (td_ys1 hc (br_f td_10ne ⟨td_s4 ha, td_s4 hb, pk_eq (g a).length (inn b) (fun _ => ⟨(g b).length + 1, ?_⟩) (fun z => absurd e z) (td_oY hY ha) (td_nY hY hb)⟩)))))
          refine td_yjoin ha hb hc e hG hY (fun re ti tn to hT => ⟨rfl, ?_⟩) _ 0 _ (Nat.zero_le _) (by omega) (td_dY0 _)
          exact td_mk hK (td_SGu hG (hG a ha).1 (by rw [List.length_map]; exact (hG b hb).2.1) (td_jnw (hG a ha).2.2 (by rw [e]; exact (hG b hb).2.2))) hS hw hd hT hw2 hd2
        · exact td_ys1 ha (br_f td_10ne (td_ys1 hb (br_f td_10ne (td_ys1 hc (br_f td_10ne ⟨td_s4 ha, td_s4 hb, pk_eq (g a).length (inn b) (fun z => absurd z e) (fun _ => ⟨rfl, I2⟩) (td_oY hY ha) (td_nY hY hb)⟩)))))
      · exact td_xs1 ha (br_f td_10ne (td_xs1 hb (br_f td_10ne (hx _ (br_t rfl (td_ys1 ha (br_f td_10ne (td_ys1 hb (br_f td_10ne (hy _ _ (br_t rfl ⟨rfl, I2⟩)))))))))))
    · exact td_xs1 ha (br_f td_10ne (hx _ (br_t rfl (td_ys1 ha (br_f td_10ne (hy _ _ (br_t rfl ⟨rfl, I2⟩)))))))
  · exact hx _ (br_t rfl (hy _ _ (br_t rfl ⟨rfl, I2⟩)))
