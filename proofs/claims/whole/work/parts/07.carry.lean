section
variable {f_workIn f_workOut f_workUsed f_documentLength f_draftLength f_runCount : Int32} {a_slotItems a_slotIn a_slotOut a_workItems a_document a_draft a_draftDocument a_runKinds a_runLengths : Nat → Int32}
variable {y_workIn y_used y_items y_length y_size y_printed : Int32} {b_out b_outLen b_inLen b_work b_doc b_result b_print : Nat → Int32}
variable {inn : Nat → Nat} {g : Nat → List Nat}
/-! X: one gap -/
theorem td_x94 {post : SX → Prop} {J : Int32 → Int32 → Int32 → Int32 → Int32 → Int32 → Int32 → Int32 → Int32 → (Nat → Int32) → (Nat → Int32) → (Nat → Int32) → (Nat → Int32) → (Nat → Int32) → (Nat → Int32) → (Nat → Int32) → (Nat → Int32) → (Nat → Int32) → Prop} {a b fa fb G : Nat} {fl z0 z1 : Int32} {R : List Nat} {dr : Nat → Int32} (ha : a < 4) (hb : b < 4) (hG : td_SG inn g) (hX : td_SX inn g a_slotItems a_slotIn a_slotOut) (hfa : fa ≤ (g a).length) (hfb : fb ≤ (g b).length) (hz : z1 + z0 = nI fb) (hd : td_dX R dr) (hp : ∀ dr', td_dX (td_bo fl R (td_rg (td_gt (g a)) fa (td_e (g a) fa - fa)) (td_rg (fun p => 10 + p) fb (td_e (g b) fb - fb))) dr' → J (nI (td_e (g a) fa)) (nI (td_e (g b) fb)) (nI (G + 1)) f_workIn f_workOut f_workUsed f_documentLength (nI (min 41 (td_bo fl R (td_rg (td_gt (g a)) fa (td_e (g a) fa - fa)) (td_rg (fun p => 10 + p) fb (td_e (g b) fb - fb))).length)) f_runCount a_slotItems a_slotIn a_slotOut a_workItems a_document dr' a_draftDocument a_runKinds a_runLengths) : wX_draftCarried_94 post J (nI a) (nI b) fl (nI fa) (nI G) z0 z1 f_workIn f_workOut f_workUsed f_documentLength (nI (min 41 R.length)) f_runCount a_slotItems a_slotIn a_slotOut a_workItems a_document dr a_draftDocument a_runKinds a_runLengths := by
  obtain ⟨a1, a2, -, -⟩ := td_eP hfa
  obtain ⟨b1, b2, -, -⟩ := td_eP hfb
  have hL := (hG b hb).2.1
  refine nm_r hz (td_xend ha hG hX hfa (td_xend hb hG hX hfb ?_))
  by_cases hf : fl = 0
  · unfold td_bo at hp
    rw [if_pos hf] at hp
    refine br_t hf ?_
    refine td_xkept (by omega) b1 hd (fun dr' hd' => ?_)
    refine td_xnew ha hG hX a2 a1 hd' (fun dr'' hd'' => nm_r (nI_1 _) ?_)
    exact hp dr'' hd''
  · unfold td_bo at hp
    rw [if_neg hf] at hp
    refine br_f hf ?_
    refine td_xnew ha hG hX a2 a1 hd (fun dr' hd' => ?_)
    refine td_xkept (by omega) b1 hd' (fun dr'' hd'' => nm_r (nI_1 _) ?_)
    exact hp dr'' hd''
theorem td_x67 {post : SX → Prop} {J : Int32 → Int32 → Int32 → Int32 → Int32 → Int32 → Int32 → Int32 → Int32 → (Nat → Int32) → (Nat → Int32) → (Nat → Int32) → (Nat → Int32) → (Nat → Int32) → (Nat → Int32) → (Nat → Int32) → (Nat → Int32) → (Nat → Int32) → Prop} {a b pa pb fa fb G : Nat} {fl x7 x8 : Int32} {R : List Nat} {dr : Nat → Int32} (ha : a < 4) (hb : b < 4) (hG : td_SG inn g) (hX : td_SX inn g a_slotItems a_slotIn a_slotOut) (hfa : fa ≤ (g a).length) (hfb : fb ≤ (g b).length) (h7 : (x7 = 0 ∧ fa = pa) ∨ (¬ x7 = 0 ∧ fa = pa + 1)) (h8 : (x8 = 0 ∧ fb = pb) ∨ (¬ x8 = 0 ∧ fb = pb + 1)) (hd : td_dX R dr) (hp : ∀ dr', td_dX (td_bo fl R (td_rg (td_gt (g a)) fa (td_e (g a) fa - fa)) (td_rg (fun p => 10 + p) fb (td_e (g b) fb - fb))) dr' → J (nI (td_e (g a) fa)) (nI (td_e (g b) fb)) (nI (G + 1)) f_workIn f_workOut f_workUsed f_documentLength (nI (min 41 (td_bo fl R (td_rg (td_gt (g a)) fa (td_e (g a) fa - fa)) (td_rg (fun p => 10 + p) fb (td_e (g b) fb - fb))).length)) f_runCount a_slotItems a_slotIn a_slotOut a_workItems a_document dr' a_draftDocument a_runKinds a_runLengths) : wX_draftCarried_67 post J (nI a) (nI b) fl (nI pa) (nI pb) (nI G) x7 x8 f_workIn f_workOut f_workUsed f_documentLength (nI (min 41 R.length)) f_runCount a_slotItems a_slotIn a_slotOut a_workItems a_document dr a_draftDocument a_runKinds a_runLengths := by
  have e0 : ∀ n : Nat, nI n + 0 = nI n := fun n => Int32.add_zero _
  have step : ∀ z0 z1 : Int32, z1 + z0 = nI fa → wX_draftCarried_79 post J (nI a) (nI b) fl (nI pb) (nI G) x8 z0 z1 f_workIn f_workOut f_workUsed f_documentLength (nI (min 41 R.length)) f_runCount a_slotItems a_slotIn a_slotOut a_workItems a_document dr a_draftDocument a_runKinds a_runLengths := by
    intro z0 z1 hz
    refine nm_r hz ?_
    rcases h8 with ⟨h8, e8⟩ | ⟨h8, e8⟩
    · exact br_t h8 (td_x94 ha hb hG hX hfa hfb (by rw [e8, e0]) hd hp)
    · exact br_f h8 (td_x94 ha hb hG hX hfa hfb (by rw [e8, nI_1]) hd hp)
  rcases h7 with ⟨h7, e7⟩ | ⟨h7, e7⟩
  · exact br_t h7 (step _ _ (by rw [e7, e0]))
  · exact br_f h7 (step _ _ (by rw [e7, nI_1]))
end
/-- the place behind the kept item of place G, if it stands at p -/
def td_nx (L : List Nat) (G p : Nat) : Nat := if p < L.length ∧ td_gt L p = 10 + G then p + 1 else p
def td_rk (A B R : List Nat) (G pa pb : Nat) : List Nat := if (pa < A.length ∧ td_gt A pa = 10 + G) ∧ (pb < B.length ∧ td_gt B pb = 10 + G) then R ++ [10 + pb] else R
def td_nR (fl : Int32) (A B R : List Nat) (G pa pb : Nat) : List Nat := td_bo fl (td_rk A B R G pa pb) (td_rg (td_gt A) (td_nx A G pa) (td_e A (td_nx A G pa) - td_nx A G pa)) (td_rg (fun p => 10 + p) (td_nx B G pb) (td_e B (td_nx B G pb) - td_nx B G pb))
theorem td_nxBe {L : List Nat} {G p : Nat} (hi : td_inc (td_gt L) L.length) (h : td_At (td_gt L) L.length G p) : td_Be (td_gt L) L.length (G + 1) (td_nx L G p) := by
  unfold td_nx
  by_cases z : p < L.length ∧ td_gt L p = 10 + G
  · rw [if_pos z]; exact td_BeK hi h z.1 z.2
  · rw [if_neg z]; exact td_BeD hi h z
theorem td_nxAt {L : List Nat} {G p : Nat} (hi : td_inc (td_gt L) L.length) (h : td_At (td_gt L) L.length G p) : td_At (td_gt L) L.length (G + 1) (td_e L (td_nx L G p)) :=
  td_AtE (td_nxBe hi h) (td_eP (td_nxBe hi h).1)
theorem td_boW {fl : Int32} {R A B : List Nat} {fb eb : Nat} (h : td_wf fb R) (hA : ∀ (m : Nat) (R : List Nat), td_wf m R → td_wf m (R ++ A)) (hB : ∀ R, td_wf fb R → td_wf eb (R ++ B)) : td_wf eb (td_bo fl R A B) := by
  unfold td_bo
  split
  · exact hA _ _ (hB _ h)
  · exact hB _ (hA _ _ h)
theorem td_gapW {fl : Int32} {L B R : List Nat} {fa fb : Nat} (hfa : fa ≤ L.length) (hfb : fb ≤ B.length) (h : td_wf fb R) : td_wf (td_e B fb) (td_bo fl R (td_rg (td_gt L) fa (td_e L fa - fa)) (td_rg (fun p => 10 + p) fb (td_e B fb - fb))) := by
  obtain ⟨a1, a2, a3, a4⟩ := td_eP hfa
  obtain ⟨b1, b2, b3, b4⟩ := td_eP hfb
  refine td_boW h (fun m R hR => td_rg_wfN _ R fa hR (fun j h1 h2 => a3 j h1 (by omega))) (fun R hR => ?_)
  have := td_rg_wfK (td_e B fb - fb) R fb hR
  rw [show fb + (td_e B fb - fb) = td_e B fb from by omega] at this
  exact this
theorem td_nRw {fl : Int32} {A B R : List Nat} {G pa pb : Nat} (hiA : td_inc (td_gt A) A.length) (hiB : td_inc (td_gt B) B.length) (hA : td_At (td_gt A) A.length G pa) (hB : td_At (td_gt B) B.length G pb) (h : td_wf pb R) : td_wf (td_e B (td_nx B G pb)) (td_nR fl A B R G pa pb) := by
  refine td_gapW (td_nxBe hiA hA).1 (td_nxBe hiB hB).1 ?_
  unfold td_rk td_nx
  by_cases zb : pb < B.length ∧ td_gt B pb = 10 + G
  · rw [if_pos zb]
    by_cases za : pa < A.length ∧ td_gt A pa = 10 + G
    · rw [if_pos ⟨za, zb⟩]; exact td_wfK h (Nat.le_refl _)
    · rw [if_neg (fun z => za z.1)]; exact td_wfM h (by omega)
  · rw [if_neg zb, if_neg (fun z => zb z.2)]; exact h
theorem td_nRl {fl : Int32} {A B R : List Nat} {G pa pb : Nat} (hiA : td_inc (td_gt A) A.length) (hiB : td_inc (td_gt B) B.length) (hA : td_At (td_gt A) A.length G pa) (hB : td_At (td_gt B) B.length G pb) (h : R.length ≤ pa + pb) : (td_rk A B R G pa pb).length ≤ td_nx A G pa + td_nx B G pb ∧ (td_nR fl A B R G pa pb).length ≤ td_e A (td_nx A G pa) + td_e B (td_nx B G pb) := by
  have h1 : (td_rk A B R G pa pb).length ≤ td_nx A G pa + td_nx B G pb := by
    unfold td_rk td_nx
    by_cases zb : pb < B.length ∧ td_gt B pb = 10 + G
    · rw [if_pos zb]
      by_cases za : pa < A.length ∧ td_gt A pa = 10 + G
      · rw [if_pos ⟨za, zb⟩, if_pos za, td_len1]; omega
      · rw [if_neg (fun z => za z.1), if_neg za]; omega
    · rw [if_neg zb, if_neg (fun z => zb z.2)]
      by_cases za : pa < A.length ∧ td_gt A pa = 10 + G
      · rw [if_pos za]; omega
      · rw [if_neg za]; exact h
  refine ⟨h1, ?_⟩
  have h2 := (td_eP (td_nxBe hiA hA).1).1
  have h3 := (td_eP (td_nxBe hiB hB).1).1
  unfold td_nR
  rw [td_bo_len, td_rg_len, td_rg_len]
  omega
section
variable {f_workIn f_workOut f_workUsed f_documentLength f_draftLength f_runCount : Int32} {a_slotItems a_slotIn a_slotOut a_workItems a_document a_draft a_draftDocument a_runKinds a_runLengths : Nat → Int32}
variable {y_workIn y_used y_items y_length y_size y_printed : Int32} {b_out b_outLen b_inLen b_work b_doc b_result b_print : Nat → Int32}
variable {inn : Nat → Nat} {g : Nat → List Nat}
theorem td_xiter {post : SX → Prop} {a b G pa pb n m : Nat} {fl : Int32} {R : List Nat} {dr : Nat → Int32} (ha : a < 4) (hb : b < 4) (hG : td_SG inn g) (hX : td_SX inn g a_slotItems a_slotIn a_slotOut) (hm : inn a = m) (hGm : G < m) (hA : td_At (td_gt (g a)) (g a).length G pa) (hB : td_At (td_gt (g b)) (g b).length G pb) (hd : td_dX R dr) (hp : ∀ dr', td_dX (td_nR fl (g a) (g b) R G pa pb) dr' → wX_draftCarried_14 post (nI a) (nI b) fl n (nI (td_e (g a) (td_nx (g a) G pa))) (nI (td_e (g b) (td_nx (g b) G pb))) (nI (G + 1 + 1)) f_workIn f_workOut f_workUsed f_documentLength (nI (min 41 (td_nR fl (g a) (g b) R G pa pb).length)) f_runCount a_slotItems a_slotIn a_slotOut a_workItems a_document dr' a_draftDocument a_runKinds a_runLengths) : wX_draftCarried_14 post (nI a) (nI b) fl (n + 1) (nI pa) (nI pb) (nI (G + 1)) f_workIn f_workOut f_workUsed f_documentLength (nI (min 41 R.length)) f_runCount a_slotItems a_slotIn a_slotOut a_workItems a_document dr a_draftDocument a_runKinds a_runLengths := by
  have hm4 := (hG a ha).1
  have hiA : td_inc (td_gt (g a)) (g a).length := fun i j h1 h2 h3 => (hG a ha).2.2.2 i j h1 h2 h3
  have hiB : td_inc (td_gt (g b)) (g b).length := fun i j h1 h2 h3 => (hG b hb).2.2.2 i j h1 h2 h3
  have nA := (td_nxBe hiA hA).1
  have nB := (td_nxBe hiB hB).1
  refine ⟨td_s4 ha, pk_lt (inn a) (G + 1) (fun h => absurd h (by omega)) (fun h => ?_) (td_nX hX ha)⟩
  rw [nI_pred]
  unfold td_nR at hp
  refine td_xkn ha hG hX hA.1 (by omega) (fun kA => ?_) (fun kA => ?_)
  · have eA : td_nx (g a) G pa = pa + 1 := if_pos kA
    refine td_xkn hb hG hX hB.1 (by omega) (fun kB => ?_) (fun kB => ?_)
    · have eB : td_nx (g b) G pb = pb + 1 := if_pos kB
      have eR : td_rk (g a) (g b) R G pa pb = R ++ [10 + pb] := if_pos ⟨kA, kB⟩
      rw [eR] at hp
      refine br_f td_10ne (br_f td_10ne (td_xitem (t := 10 + pb) hd (by rw [td_cx10]) (fun dr' hd' => ?_)))
      exact td_x67 ha hb hG hX nA nB (Or.inr ⟨td_10ne, eA⟩) (Or.inr ⟨td_10ne, eB⟩) hd' hp
    · have eB : td_nx (g b) G pb = pb := if_neg kB
      have eR : td_rk (g a) (g b) R G pa pb = R := if_neg (fun z => kB z.2)
      rw [eR] at hp
      exact br_f td_10ne (br_t rfl (td_x67 ha hb hG hX nA nB (Or.inr ⟨td_10ne, eA⟩) (Or.inl ⟨rfl, eB⟩) hd hp))
  · have eA : td_nx (g a) G pa = pa := if_neg kA
    have eR : td_rk (g a) (g b) R G pa pb = R := if_neg (fun z => kA z.1)
    rw [eR] at hp
    refine td_xkn hb hG hX hB.1 (by omega) (fun kB => ?_) (fun kB => ?_)
    · have eB : td_nx (g b) G pb = pb + 1 := if_pos kB
      exact br_t rfl (td_x67 ha hb hG hX nA nB (Or.inl ⟨rfl, eA⟩) (Or.inr ⟨td_10ne, eB⟩) hd hp)
    · have eB : td_nx (g b) G pb = pb := if_neg kB
      exact br_t rfl (td_x67 ha hb hG hX nA nB (Or.inl ⟨rfl, eA⟩) (Or.inl ⟨rfl, eB⟩) hd hp)
theorem td_yiter {post : Int32 → SY → Prop} {a b to G pa pb n m : Nat} {fl x3 : Int32} {R : List Nat} {re : Nat → Int32} (ha : a < 4) (hb : b < 4) (hG : td_SG inn g) (hY : td_SY inn g b_out b_outLen b_inLen) (hf : (x3 = 0 ∧ fl = 0) ∨ (¬ x3 = 0 ∧ fl = 1)) (hm : inn a = m) (hGm : G < m) (hA : td_At (td_gt (g a)) (g a).length G pa) (hB : td_At (td_gt (g b)) (g b).length G pb) (hl : R.length ≤ pa + pb) (hd : td_dY R re) (hp : ∀ re', td_dY (td_nR fl (g a) (g b) R G pa pb) re' → wY_carry_69 post (nI a) (nI b) x3 (nI to) n (nI (G + 1)) y_workIn y_used y_items y_length (nI (td_nR fl (g a) (g b) R G pa pb).length) y_printed b_out b_outLen b_inLen b_work b_doc re' b_print) : wY_carry_69 post (nI a) (nI b) x3 (nI to) (n + 1) (nI G) y_workIn y_used y_items y_length (nI R.length) y_printed b_out b_outLen b_inLen b_work b_doc re b_print := by
  have hm4 := (hG a ha).1
  have hLa := (hG a ha).2.1
  have hLb := (hG b hb).2.1
  have hiA : td_inc (td_gt (g a)) (g a).length := fun i j h1 h2 h3 => (hG a ha).2.2.2 i j h1 h2 h3
  have hiB : td_inc (td_gt (g b)) (g b).length := fun i j h1 h2 h3 => (hG b hb).2.2.2 i j h1 h2 h3
  have nA := td_nxBe hiA hA
  have nB := td_nxBe hiB hB
  have eA := td_eP nA.1
  have eB := td_eP nB.1
  have gA := td_gap hiA nA eA
  have gB := td_gap hiB nB eB
  have hl2 := (td_nRl (fl := fl) hiA hiB hA hB hl).1
  have l1 := eA.1
  have l2 := eA.2.1
  have l3 := eB.1
  have l4 := eB.2.1
  have next : ∀ re', td_dY (td_rk (g a) (g b) R G pa pb) re' → wY_carry_113 post (wY_carry_69 post (nI a) (nI b) x3 (nI to) n) (nI a) (nI b) x3 (nI to) (nI G) y_workIn y_used y_items y_length (nI (td_rk (g a) (g b) R G pa pb).length) y_printed b_out b_outLen b_inLen b_work b_doc re' b_print := by
    intro re' hd'
    unfold td_nR at hp
    unfold wY_carry_113
    rw [nI_1]
    rcases hf with ⟨h3, hf⟩ | ⟨h3, hf⟩
    · refine br_t h3 ?_
      rw [hf] at hp
      exact td_yboth ha hb hG hY (by omega) l1 l2 gA l3 l4 gB (by omega) hd' (fun re'' hd'' => nm_r (nI_1 _) (hp re'' hd''))
    · refine br_f h3 ?_
      rw [hf] at hp
      exact td_yboth ha hb hG hY (by omega) l1 l2 gA l3 l4 gB (by omega) hd' (fun re'' hd'' => nm_r (nI_1 _) (hp re'' hd''))
  refine ⟨td_s4 ha, pk_le (inn a) G (fun h => absurd h (by omega)) (fun h => ?_) (td_nY hY ha)⟩
  have hA1 := hA.1
  have hB1 := hB.1
  by_cases kB : pb < (g b).length ∧ td_gt (g b) pb = 10 + G
  · refine td_yplK hb hG hY (by omega) kB.1 kB.2 (td_plK hiB hB kB.2) ?_
    by_cases kA : pa < (g a).length ∧ td_gt (g a) pa = 10 + G
    · refine td_yplK ha hG hY (by omega) kA.1 kA.2 (td_plK hiA hA kA.2) ?_
      have eR : td_rk (g a) (g b) R G pa pb = R ++ [10 + pb] := if_pos ⟨kA, kB⟩
      rw [eR] at next
      refine br_f (nI_pos (by omega)) (br_f (nI_pos (by omega)) ?_)
      exact td_yemit hd (by omega) (td_10 _) (fun re' hd' => next re' hd')
    · have eR : td_rk (g a) (g b) R G pa pb = R := if_neg (fun z => kA z.1)
      rw [eR] at next
      exact td_yplD ha hG hY (by omega) (td_plD hiA hA kA) (br_t td_m1neg (next re hd))
  · have eR : td_rk (g a) (g b) R G pa pb = R := if_neg (fun z => kB z.2)
    rw [eR] at next
    refine td_yplD hb hG hY (by omega) (td_plD hiB hB kB) ?_
    by_cases kA : pa < (g a).length ∧ td_gt (g a) pa = 10 + G
    · refine td_yplK ha hG hY (by omega) kA.1 kA.2 (td_plK hiA hA kA.2) ?_
      exact br_f (nI_pos (by omega)) (br_t td_m1neg (next re hd))
    · exact td_yplD ha hG hY (by omega) (td_plD hiA hA kA) (br_t td_m1neg (next re hd))
end
