def td_en (f : Nat → Nat) : Nat → Nat → Nat
  | 0, i => i
  | d + 1, i => if f i < 10 then td_en f d (i + 1) else i
def td_e (L : List Nat) (p : Nat) : Nat := td_en (td_gt L) (L.length - p) p
theorem td_en_p {f : Nat → Nat} {n : Nat} : ∀ d i, i + d = n → td_En f n i (td_en f d i) := by
  intro d
  induction d with
  | zero => intro i h; exact ⟨Nat.le_refl _, by show i ≤ n; omega, fun j h1 h2 => absurd h1 (by have : j < i := h2; omega), fun h2 => absurd h2 (by show ¬ i < n; omega)⟩
  | succ d ih =>
    intro i h
    show td_En f n i (if f i < 10 then td_en f d (i + 1) else i)
    by_cases z : f i < 10
    · rw [if_pos z]
      obtain ⟨a1, a2, a3, a4⟩ := ih (i + 1) (by omega)
      refine ⟨by omega, a2, fun j h1 h2 => ?_, a4⟩
      by_cases y : j = i
      · rw [y]; exact z
      · exact a3 j (by omega) h2
    · rw [if_neg z]
      exact ⟨Nat.le_refl _, by omega, fun j h1 h2 => by omega, fun _ => by omega⟩
theorem td_eP {L : List Nat} {p : Nat} (h : p ≤ L.length) : td_En (td_gt L) L.length p (td_e L p) := td_en_p _ _ (by omega)
theorem td_eN {L : List Nat} {p : Nat} (h : p < L.length) (hn : td_gt L p < 10) : td_e L p = td_e L (p + 1) := by
  unfold td_e
  rw [show L.length - p = (L.length - (p + 1)) + 1 from by omega]
  show (if td_gt L p < 10 then td_en (td_gt L) (L.length - (p + 1)) (p + 1) else p) = _
  rw [if_pos hn]
theorem td_eK {L : List Nat} {p : Nat} (h : p < L.length) (hn : 10 ≤ td_gt L p) : td_e L p = p := by
  unfold td_e
  rw [show L.length - p = (L.length - (p + 1)) + 1 from by omega]
  show (if td_gt L p < 10 then td_en (td_gt L) (L.length - (p + 1)) (p + 1) else p) = _
  rw [if_neg (by omega)]
theorem td_eL {L : List Nat} {p : Nat} (h : p = L.length) : td_e L p = p := by
  unfold td_e
  rw [show L.length - p = 0 from by omega]
  rfl
section
variable {f_workIn f_workOut f_workUsed f_documentLength f_draftLength f_runCount : Int32} {a_slotItems a_slotIn a_slotOut a_workItems a_document a_draft a_draftDocument a_runKinds a_runLengths : Nat → Int32}
variable {y_workIn y_used y_items y_length y_size y_printed : Int32} {b_out b_outLen b_inLen b_work b_doc b_result b_print : Nat → Int32}
variable {inn : Nat → Nat} {g : Nat → List Nat}
/-! X: keepsNext, endOfNew, draftNewOf -/
theorem td_xkn {post : Int32 → Prop} {s p q : Nat} (hs : s < 4) (hG : td_SG inn g) (hX : td_SX inn g a_slotItems a_slotIn a_slotOut) (hp : p ≤ (g s).length) (hq : q ≤ 40) (h1 : p < (g s).length ∧ td_gt (g s) p = 10 + q → post 1) (h0 : ¬ (p < (g s).length ∧ td_gt (g s) p = 10 + q) → post 0) : wpX_keepsNext post (f_workIn, f_workOut, f_workUsed, f_documentLength, f_draftLength, f_runCount, a_slotItems, a_slotIn, a_slotOut, a_workItems, a_document, a_draft, a_draftDocument, a_runKinds, a_runLengths) (nI s) (nI p) (nI q) := by
  have hL := (hG s hs).2.1
  refine ⟨td_s4 hs, pk_le (g s).length p (fun h => h0 (by omega)) (fun h => ⟨td_cI hG hs h, ?_⟩) (td_oX hX hs)⟩
  have h60 := td_g60 hG hs h
  have h61 := td_cx_lt (t := td_gt (g s) p) (by omega)
  refine pk_eq (td_cx (td_gt (g s) p)) q (fun e => h1 ⟨h, ?_⟩) (fun e => h0 (fun z => e ?_)) (td_cX hX hG hs h) rfl
  · unfold td_cx at e
    split at e <;> omega
  · rw [z.2, td_cx10]
theorem td_xkn0 {post : Int32 → Prop} {s p : Nat} {x : Int32} (hs : s < 4) (hG : td_SG inn g) (hX : td_SX inn g a_slotItems a_slotIn a_slotOut) (hp : p ≤ (g s).length) (hx : x = -1) (h0 : post 0) : wpX_keepsNext post (f_workIn, f_workOut, f_workUsed, f_documentLength, f_draftLength, f_runCount, a_slotItems, a_slotIn, a_slotOut, a_workItems, a_document, a_draft, a_draftDocument, a_runKinds, a_runLengths) (nI s) (nI p) x := by
  have hL := (hG s hs).2.1
  subst hx
  refine ⟨td_s4 hs, pk_le (g s).length p (fun h => h0) (fun h => ⟨td_cI hG hs h, ?_⟩) (td_oX hX hs)⟩
  have h60 := td_g60 hG hs h
  have h61 := td_cx_lt (t := td_gt (g s) p) (by omega)
  rw [td_cX hX hG hs h]
  exact br_f (td_nm1 (by omega)) h0
theorem td_xend2 {post : Int32 → Prop} {s : Nat} (hs : s < 4) (hG : td_SG inn g) (hX : td_SX inn g a_slotItems a_slotIn a_slotOut) : ∀ n i, i ≤ (g s).length → (g s).length - i < n → post (nI (td_e (g s) i)) → wX_endOfNew_2 post (nI s) f_workIn f_workOut f_workUsed f_documentLength f_draftLength f_runCount a_slotItems a_slotIn a_slotOut a_workItems a_document a_draft a_draftDocument a_runKinds a_runLengths n (nI i) := by
  have hL := (hG s hs).2.1
  intro n
  induction n with
  | zero => intro i _ h; exact absurd h (Nat.not_lt_zero _)
  | succ n ih =>
    intro i hi hn hp
    refine ⟨td_s4 hs, pk_le (g s).length i (fun h => ⟨td_s4 hs, ?_⟩) (fun h => ⟨td_cI hG hs h, ?_⟩) (td_oX hX hs)⟩
    · rw [td_eL (by omega), show i = (g s).length from by omega] at hp
      rw [td_oX hX hs]
      exact hp
    · have h60 := td_g60 hG hs h
      rw [td_cX hX hG hs h]
      by_cases z : td_gt (g s) i < 10
      · rw [td_eN h z] at hp
        exact td_xn1 z (br_f td_10ne (nm_r (nI_1 _) (ih (i + 1) (by omega) (by omega) hp)))
      · rw [td_eK h (by omega)] at hp
        exact td_xn0 (by omega) (by omega) (br_t rfl hp)
theorem td_xend {post : Int32 → Prop} {s i : Nat} (hs : s < 4) (hG : td_SG inn g) (hX : td_SX inn g a_slotItems a_slotIn a_slotOut) (hi : i ≤ (g s).length) (hp : post (nI (td_e (g s) i))) : wpX_endOfNew post (f_workIn, f_workOut, f_workUsed, f_documentLength, f_draftLength, f_runCount, a_slotItems, a_slotIn, a_slotOut, a_workItems, a_document, a_draft, a_draftDocument, a_runKinds, a_runLengths) (nI s) (nI i) :=
  ⟨(g s).length - i + 1, td_xend2 hs hG hX _ i hi (by omega) hp⟩
theorem td_xnew2 {post : SX → Prop} {s e : Nat} (hs : s < 4) (hG : td_SG inn g) (hX : td_SX inn g a_slotItems a_slotIn a_slotOut) (he : e ≤ (g s).length) : ∀ n i R dr, i ≤ e → e - i < n → td_dX R dr → (∀ dr', td_dX (R ++ td_rg (td_gt (g s)) i (e - i)) dr' → post (f_workIn, f_workOut, f_workUsed, f_documentLength, nI (min 41 (R ++ td_rg (td_gt (g s)) i (e - i)).length), f_runCount, a_slotItems, a_slotIn, a_slotOut, a_workItems, a_document, dr', a_draftDocument, a_runKinds, a_runLengths)) → wX_draftNewOf_3 post (nI s) (nI e) n (nI i) f_workIn f_workOut f_workUsed f_documentLength (nI (min 41 R.length)) f_runCount a_slotItems a_slotIn a_slotOut a_workItems a_document dr a_draftDocument a_runKinds a_runLengths := by
  have hL := (hG s hs).2.1
  intro n
  induction n with
  | zero => intro i R dr _ h; exact absurd h (Nat.not_lt_zero _)
  | succ n ih =>
    intro i R dr hi hn hd hp
    refine pk_le e i (fun h => ?_) (fun h => ⟨td_cI hG hs (by omega), ?_⟩)
    · rw [show e - i = 0 from by omega, show td_rg (td_gt (g s)) i 0 = [] from rfl, List.append_nil] at hp
      exact hp dr hd
    · rw [td_rg_step R _ h] at hp
      exact td_xitem hd (td_cX hX hG hs (by omega)) (fun dr' hd' => nm_r (nI_1 _) (ih (i + 1) _ dr' (by omega) (by omega) hd' hp))
theorem td_xnew {post : SX → Prop} {s i e : Nat} {R : List Nat} {dr : Nat → Int32} (hs : s < 4) (hG : td_SG inn g) (hX : td_SX inn g a_slotItems a_slotIn a_slotOut) (he : e ≤ (g s).length) (hi : i ≤ e) (hd : td_dX R dr) (hp : ∀ dr', td_dX (R ++ td_rg (td_gt (g s)) i (e - i)) dr' → post (f_workIn, f_workOut, f_workUsed, f_documentLength, nI (min 41 (R ++ td_rg (td_gt (g s)) i (e - i)).length), f_runCount, a_slotItems, a_slotIn, a_slotOut, a_workItems, a_document, dr', a_draftDocument, a_runKinds, a_runLengths)) : wpX_draftNewOf post (f_workIn, f_workOut, f_workUsed, f_documentLength, nI (min 41 R.length), f_runCount, a_slotItems, a_slotIn, a_slotOut, a_workItems, a_document, dr, a_draftDocument, a_runKinds, a_runLengths) (nI s) (nI i) (nI e) :=
  ⟨e - i + 1, td_xnew2 hs hG hX he _ i R dr hi (by omega) hd hp⟩
/-! Y: placeOf, gapOf, emitGap, emitBoth -/
theorem td_yplK2 {post : Int32 → Prop} {s p q : Nat} (hs : s < 4) (hG : td_SG inn g) (hY : td_SY inn g b_out b_outLen b_inLen) (hq : q ≤ 40) (hp : p < (g s).length) (hk : td_gt (g s) p = 10 + q) (hu : ∀ i, i < (g s).length → td_gt (g s) i = 10 + q → i = p) (h1 : post (nI p)) : ∀ n i x, i ≤ (g s).length → (g s).length - i < n → (p < i → x = nI p) → wY_placeOf_5 post (nI s) (nI q) y_workIn y_used y_items y_length y_size y_printed b_out b_outLen b_inLen b_work b_doc b_result b_print n x (nI i) := by
  have hL := (hG s hs).2.1
  intro n
  induction n with
  | zero => intro i x _ h; exact absurd h (Nat.not_lt_zero _)
  | succ n ih =>
    intro i x hi hn hx
    refine ⟨td_s4 hs, pk_le (g s).length i (fun h => ?_) (fun h => ⟨td_cI hG hs h, ?_⟩) (td_oY hY hs)⟩
    · rw [hx (by omega)]; exact h1
    · have h60 := td_g60 hG hs h
      refine pk_eq (td_gt (g s) i) (10 + q) (fun e => nm_r (nI_1 _) (ih (i + 1) _ (by omega) (by omega) (fun _ => ?_))) (fun e => nm_r (nI_1 _) (ih (i + 1) _ (by omega) (by omega) (fun z => hx ?_))) (td_cY hY hG hs h) (td_10 q)
      · rw [hu i h e]
      · have : p ≠ i := fun w => e (by rw [← w]; exact hk)
        omega
theorem td_yplK {post : Int32 → Prop} {s p q : Nat} (hs : s < 4) (hG : td_SG inn g) (hY : td_SY inn g b_out b_outLen b_inLen) (hq : q ≤ 40) (hp : p < (g s).length) (hk : td_gt (g s) p = 10 + q) (hu : ∀ i, i < (g s).length → td_gt (g s) i = 10 + q → i = p) (h1 : post (nI p)) : wpY_placeOf post (y_workIn, y_used, y_items, y_length, y_size, y_printed, b_out, b_outLen, b_inLen, b_work, b_doc, b_result, b_print) (nI s) (nI q) :=
  ⟨(g s).length + 1, td_yplK2 hs hG hY hq hp hk hu h1 _ 0 _ (Nat.zero_le _) (by omega) (fun z => absurd z (Nat.not_lt_zero _))⟩
theorem td_yplD2 {post : Int32 → Prop} {s q : Nat} (hs : s < 4) (hG : td_SG inn g) (hY : td_SY inn g b_out b_outLen b_inLen) (hq : q ≤ 40) (hu : ∀ i, i < (g s).length → td_gt (g s) i ≠ 10 + q) (h1 : post (-1)) : ∀ n i, i ≤ (g s).length → (g s).length - i < n → wY_placeOf_5 post (nI s) (nI q) y_workIn y_used y_items y_length y_size y_printed b_out b_outLen b_inLen b_work b_doc b_result b_print n (-1) (nI i) := by
  have hL := (hG s hs).2.1
  intro n
  induction n with
  | zero => intro i _ h; exact absurd h (Nat.not_lt_zero _)
  | succ n ih =>
    intro i hi hn
    refine ⟨td_s4 hs, pk_le (g s).length i (fun h => h1) (fun h => ⟨td_cI hG hs h, ?_⟩) (td_oY hY hs)⟩
    have h60 := td_g60 hG hs h
    exact pk_eq (td_gt (g s) i) (10 + q) (fun e => absurd e (hu i h)) (fun e => nm_r (nI_1 _) (ih (i + 1) (by omega) (by omega))) (td_cY hY hG hs h) (td_10 q)
theorem td_yplD {post : Int32 → Prop} {s q : Nat} (hs : s < 4) (hG : td_SG inn g) (hY : td_SY inn g b_out b_outLen b_inLen) (hq : q ≤ 40) (hu : ∀ i, i < (g s).length → td_gt (g s) i ≠ 10 + q) (h1 : post (-1)) : wpY_placeOf post (y_workIn, y_used, y_items, y_length, y_size, y_printed, b_out, b_outLen, b_inLen, b_work, b_doc, b_result, b_print) (nI s) (nI q) :=
  ⟨(g s).length + 1, td_yplD2 hs hG hY hq hu h1 _ 0 (Nat.zero_le _) (by omega)⟩
theorem td_ygap2 {post : Int32 → Prop} {s p : Nat} (hs : s < 4) (hG : td_SG inn g) (hY : td_SY inn g b_out b_outLen b_inLen) (hp : p ≤ (g s).length) (h1 : post (nI (td_ga (td_gt (g s)) p))) : ∀ n i, i ≤ p → p - i < n → wY_gapOf_5 post (nI s) (nI p) y_workIn y_used y_items y_length y_size y_printed b_out b_outLen b_inLen b_work b_doc b_result b_print n (nI (td_ga (td_gt (g s)) i)) (nI i) := by
  have hL := (hG s hs).2.1
  intro n
  induction n with
  | zero => intro i _ h; exact absurd h (Nat.not_lt_zero _)
  | succ n ih =>
    intro i hi hn
    refine pk_le p i (fun h => ?_) (fun h => ⟨td_cI hG hs (by omega), ?_⟩)
    · rw [show i = p from by omega]; exact h1
    · have h60 := td_g60 hG hs (i := i) (by omega)
      have hi2 := ih (i + 1) (by omega) (by omega)
      rw [show td_ga (td_gt (g s)) (i + 1) = if td_gt (g s) i < 10 then td_ga (td_gt (g s)) i else td_gt (g s) i - 10 + 1 from rfl] at hi2
      refine pk_lt (td_gt (g s) i) 10 (fun z => nm_r (nI_1 _) ?_) (fun z => ⟨td_cI hG hs (by omega), nm_r (e' := nI (td_gt (g s) i - 10 + 1)) ?_ (nm_r (nI_1 _) ?_)⟩) (td_cY hY hG hs (by omega)) rfl
      · rw [if_pos z] at hi2; exact hi2
      · rw [td_cY hY hG hs (by omega), td_s10 z, nI_1]
      · rw [if_neg (by omega)] at hi2; exact hi2
theorem td_ygap {post : Int32 → Prop} {s p : Nat} (hs : s < 4) (hG : td_SG inn g) (hY : td_SY inn g b_out b_outLen b_inLen) (hp : p ≤ (g s).length) (h1 : post (nI (td_ga (td_gt (g s)) p))) : wpY_gapOf post (y_workIn, y_used, y_items, y_length, y_size, y_printed, b_out, b_outLen, b_inLen, b_work, b_doc, b_result, b_print) (nI s) (nI p) :=
  ⟨p + 1, td_ygap2 hs hG hY hp h1 _ 0 (Nat.zero_le _) (by omega)⟩
theorem td_ga50 {s p : Nat} (hs : s < 4) (hG : td_SG inn g) (hp : p ≤ (g s).length) : td_ga (td_gt (g s)) p ≤ 40 :=
  td_ga_le p (fun j hj => by have := td_g60 hG hs (i := j) (by omega); omega)
theorem td_yemg2 {post : SY → Prop} {s G p e : Nat} {x : Int32} {c : Nat → Nat} (hs : s < 4) (hG : td_SG inn g) (hY : td_SY inn g b_out b_outLen b_inLen) (hc : (x = 0 ∧ ∀ i, c i = td_gt (g s) i) ∨ (¬ x = 0 ∧ ∀ i, c i = 10 + i)) (hGb : G ≤ 41) (hpe : p ≤ e) (hen : e ≤ (g s).length) (hg : ∀ i, i < (g s).length → ((td_gt (g s) i < 10 ∧ td_ga (td_gt (g s)) i = G) ↔ (p ≤ i ∧ i < e))) : ∀ n i R re, i ≤ (g s).length → (g s).length - i < n → R.length + (e - max i p) ≤ 80 → td_dY R re → (∀ re', td_dY (R ++ td_rg c (max i p) (e - max i p)) re' → post (y_workIn, y_used, y_items, y_length, nI (R ++ td_rg c (max i p) (e - max i p)).length, y_printed, b_out, b_outLen, b_inLen, b_work, b_doc, re', b_print)) → wY_emitGap_3 post (nI s) (nI G) x n (nI i) y_workIn y_used y_items y_length (nI R.length) y_printed b_out b_outLen b_inLen b_work b_doc re b_print := by
  have hL := (hG s hs).2.1
  intro n
  induction n with
  | zero => intro i R re _ h; exact absurd h (Nat.not_lt_zero _)
  | succ n ih =>
    intro i R re hi hn hl hd hp
    refine ⟨td_s4 hs, pk_le (g s).length i (fun h => ?_) (fun h => ⟨td_cI hG hs h, nm_r (td_cY hY hG hs h) ?_⟩) (td_oY hY hs)⟩
    · rw [show e - max i p = 0 from by omega, show td_rg c (max i p) 0 = [] from rfl, List.append_nil] at hp
      exact hp re hd
    · have h60 := td_g60 hG hs h
      have h41 := td_ga50 hs hG (p := i) (by omega)
      have skip : ¬ (p ≤ i ∧ i < e) → wY_emitGap_3 post (nI s) (nI G) x n (nI (i + 1)) y_workIn y_used y_items y_length (nI R.length) y_printed b_out b_outLen b_inLen b_work b_doc re b_print := by
        intro z
        refine ih (i + 1) R re (by omega) (by omega) (by omega) hd ?_
        by_cases y : i < p
        · rw [show max (i + 1) p = max i p from by omega]; exact hp
        · rw [show e - max (i + 1) p = 0 from by omega]
          rw [show e - max i p = 0 from by omega] at hp
          exact hp
      refine pk_le 10 (td_gt (g s) i) (fun z => nm_r (nI_1 _) (skip (fun y => by have := (hg i h).mpr y; omega))) (fun z => td_ygap hs hG hY (by omega) ?_)
      refine pk_eq (td_ga (td_gt (g s)) i) G (fun y => ?_) (fun y => nm_r (nI_1 _) (skip (fun w => y ((hg i h).mpr w).2)))
      have hr := (hg i h).mp ⟨z, y⟩
      rw [show max i p = i from by omega, td_rg_step R c hr.2] at hp
      have next : ∀ v, v = nI (c i) → wY_emitGap_61 post (wY_emitGap_3 post (nI s) (nI G) x n) (nI s) (nI G) x (nI i) v y_workIn y_used y_items y_length (nI R.length) y_printed b_out b_outLen b_inLen b_work b_doc re b_print := by
        intro v ev
        refine td_yemit hd (by omega) ev (fun re' hd' => nm_r (nI_1 _) ?_)
        refine ih (i + 1) _ re' (by omega) (by omega) (by rw [td_len1]; omega) hd' ?_
        rw [show max (i + 1) p = i + 1 from by omega]
        exact hp
      rcases hc with ⟨hx, hc⟩ | ⟨hx, hc⟩
      · exact br_t hx (next _ (by rw [hc]))
      · exact br_f hx (next _ (by rw [hc, td_10]))
theorem td_yemg {post : SY → Prop} {s G p e : Nat} {x : Int32} {c : Nat → Nat} {R : List Nat} {re : Nat → Int32} (hs : s < 4) (hG : td_SG inn g) (hY : td_SY inn g b_out b_outLen b_inLen) (hc : (x = 0 ∧ ∀ i, c i = td_gt (g s) i) ∨ (¬ x = 0 ∧ ∀ i, c i = 10 + i)) (hGb : G ≤ 41) (hpe : p ≤ e) (hen : e ≤ (g s).length) (hg : ∀ i, i < (g s).length → ((td_gt (g s) i < 10 ∧ td_ga (td_gt (g s)) i = G) ↔ (p ≤ i ∧ i < e))) (hl : R.length + (e - p) ≤ 80) (hd : td_dY R re) (hp : ∀ re', td_dY (R ++ td_rg c p (e - p)) re' → post (y_workIn, y_used, y_items, y_length, nI (R ++ td_rg c p (e - p)).length, y_printed, b_out, b_outLen, b_inLen, b_work, b_doc, re', b_print)) : wpY_emitGap post (y_workIn, y_used, y_items, y_length, nI R.length, y_printed, b_out, b_outLen, b_inLen, b_work, b_doc, re, b_print) (nI s) (nI G) x :=
  ⟨(g s).length + 1, td_yemg2 hs hG hY hc hGb hpe hen hg _ 0 R re (Nat.zero_le _) (by omega) (by rw [show max 0 p = p from by omega]; exact hl) hd (by rw [show max 0 p = p from by omega]; exact hp)⟩
/-! one gap of both, in order -/
def td_bo (fl : Int32) (R A B : List Nat) : List Nat := if fl = 0 then (R ++ B) ++ A else (R ++ A) ++ B
theorem td_bo_len {fl : Int32} {R A B : List Nat} : (td_bo fl R A B).length = R.length + A.length + B.length := by
  unfold td_bo
  split <;> simp only [List.length_append] <;> omega
theorem td_yboth {post : SY → Prop} {a b G pa ea pb eb : Nat} {fl : Int32} {R : List Nat} {re : Nat → Int32} (ha : a < 4) (hb : b < 4) (hG : td_SG inn g) (hY : td_SY inn g b_out b_outLen b_inLen) (hGb : G ≤ 41) (hpa : pa ≤ ea) (hea : ea ≤ (g a).length) (hga : ∀ i, i < (g a).length → ((td_gt (g a) i < 10 ∧ td_ga (td_gt (g a)) i = G) ↔ (pa ≤ i ∧ i < ea))) (hpb : pb ≤ eb) (heb : eb ≤ (g b).length) (hgb : ∀ i, i < (g b).length → ((td_gt (g b) i < 10 ∧ td_ga (td_gt (g b)) i = G) ↔ (pb ≤ i ∧ i < eb))) (hl : R.length + (ea - pa) + (eb - pb) ≤ 80) (hd : td_dY R re) (hp : ∀ re', td_dY (td_bo fl R (td_rg (td_gt (g a)) pa (ea - pa)) (td_rg (fun p => 10 + p) pb (eb - pb))) re' → post (y_workIn, y_used, y_items, y_length, nI (td_bo fl R (td_rg (td_gt (g a)) pa (ea - pa)) (td_rg (fun p => 10 + p) pb (eb - pb))).length, y_printed, b_out, b_outLen, b_inLen, b_work, b_doc, re', b_print)) : wpY_emitBoth post (y_workIn, y_used, y_items, y_length, nI R.length, y_printed, b_out, b_outLen, b_inLen, b_work, b_doc, re, b_print) (nI a) (nI b) (nI G) fl := by
  have la : ∀ R : List Nat, (R ++ td_rg (td_gt (g a)) pa (ea - pa)).length = R.length + (ea - pa) := fun R => by rw [List.length_append, td_rg_len]
  have lb : ∀ R : List Nat, (R ++ td_rg (fun p => 10 + p) pb (eb - pb)).length = R.length + (eb - pb) := fun R => by rw [List.length_append, td_rg_len]
  by_cases hf : fl = 0
  · unfold td_bo at hp
    rw [if_pos hf] at hp
    refine br_t hf ?_
    refine td_yemg hb hG hY (Or.inr ⟨td_10ne, fun i => rfl⟩) hGb hpb heb hgb (by omega) hd (fun re' hd' => br_t hf ?_)
    exact td_yemg ha hG hY (Or.inl ⟨rfl, fun i => rfl⟩) hGb hpa hea hga (by rw [lb]; omega) hd' hp
  · unfold td_bo at hp
    rw [if_neg hf] at hp
    refine br_f hf ?_
    refine td_yemg ha hG hY (Or.inl ⟨rfl, fun i => rfl⟩) hGb hpa hea hga (by omega) hd (fun re' hd' => ?_)
    refine td_yemg hb hG hY (Or.inr ⟨td_10ne, fun i => rfl⟩) hGb hpb heb hgb (by rw [la]; omega) hd' (fun re'' hd'' => br_f hf ?_)
    exact hp re'' hd''
end
