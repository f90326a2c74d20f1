/-! steps told as runs: how many, their kinds, their lengths -/
def td_cc (st : Nat → Nat) : Nat → Nat × (Nat → Nat) × (Nat → Nat)
  | 0 => (0, fun _ => 0, fun _ => 0)
  | p + 1 => if 0 < p ∧ st p = st (p - 1) then ((td_cc st p).1, (td_cc st p).2.1, fun j => if j = (td_cc st p).1 - 1 then (td_cc st p).2.2 j + 1 else (td_cc st p).2.2 j) else ((td_cc st p).1 + 1, (fun j => if j = (td_cc st p).1 then st p else (td_cc st p).2.1 j), fun j => if j = (td_cc st p).1 then 1 else (td_cc st p).2.2 j)
theorem td_ccS {st : Nat → Nat} {p : Nat} (h : 0 < p ∧ st p = st (p - 1)) : td_cc st (p + 1) = ((td_cc st p).1, (td_cc st p).2.1, fun j => if j = (td_cc st p).1 - 1 then (td_cc st p).2.2 j + 1 else (td_cc st p).2.2 j) := if_pos h
theorem td_ccN {st : Nat → Nat} {p : Nat} (h : ¬ (0 < p ∧ st p = st (p - 1))) : td_cc st (p + 1) = ((td_cc st p).1 + 1, (fun j => if j = (td_cc st p).1 then st p else (td_cc st p).2.1 j), fun j => if j = (td_cc st p).1 then 1 else (td_cc st p).2.2 j) := if_neg h
theorem td_ccE {st st' : Nat → Nat} : ∀ p, (∀ i, i < p → st i = st' i) → td_cc st p = td_cc st' p := by
  intro p
  induction p with
  | zero => intro _; rfl
  | succ p ih =>
    intro h
    have e := ih (fun i hi => h i (by omega))
    have e1 := h p (by omega)
    by_cases z : 0 < p ∧ st p = st (p - 1)
    · have e2 := h (p - 1) (by omega)
      rw [td_ccS z, td_ccS (by rw [← e1, ← e2]; exact z), e]
    · have z2 : ¬ (0 < p ∧ st' p = st' (p - 1)) := by
        intro w
        have e2 := h (p - 1) (by omega)
        rw [← e1, ← e2] at w
        exact z w
      rw [td_ccN z, td_ccN z2, e, e1]
theorem td_ccP {st : Nat → Nat} : ∀ p, (∀ i, i < p → st i < 10) → (td_cc st p).1 ≤ p ∧ (0 < p → 0 < (td_cc st p).1 ∧ (td_cc st p).2.1 ((td_cc st p).1 - 1) = st (p - 1)) ∧ ∀ j, j < (td_cc st p).1 → (td_cc st p).2.1 j < 10 ∧ 1 ≤ (td_cc st p).2.2 j ∧ (td_cc st p).2.2 j ≤ p := by
  intro p
  induction p with
  | zero => intro _; exact ⟨Nat.le_refl _, fun h => absurd h (Nat.not_lt_zero _), fun j h => absurd h (Nat.not_lt_zero _)⟩
  | succ p ih =>
    intro h
    obtain ⟨i1, i2, i3⟩ := ih (fun i hi => h i (by omega))
    have hp := h p (by omega)
    by_cases z : 0 < p ∧ st p = st (p - 1)
    · obtain ⟨j1, j2⟩ := i2 z.1
      rw [td_ccS z]
      refine ⟨by show (td_cc st p).1 ≤ p + 1; omega, fun _ => ⟨j1, ?_⟩, fun j hj => ?_⟩
      · show (td_cc st p).2.1 ((td_cc st p).1 - 1) = st p
        rw [j2, z.2]
      · obtain ⟨k1, k2, k3⟩ := i3 j hj
        refine ⟨k1, ?_⟩
        show 1 ≤ (if j = (td_cc st p).1 - 1 then (td_cc st p).2.2 j + 1 else (td_cc st p).2.2 j) ∧ (if j = (td_cc st p).1 - 1 then (td_cc st p).2.2 j + 1 else (td_cc st p).2.2 j) ≤ p + 1
        split <;> omega
    · rw [td_ccN z]
      refine ⟨by show (td_cc st p).1 + 1 ≤ p + 1; omega, fun _ => ⟨Nat.succ_pos _, ?_⟩, fun j hj => ?_⟩
      · show (if (td_cc st p).1 + 1 - 1 = (td_cc st p).1 then st p else (td_cc st p).2.1 ((td_cc st p).1 + 1 - 1)) = st p
        exact if_pos (Nat.add_sub_cancel _ _)
      · have hj2 : j < (td_cc st p).1 + 1 := hj
        show (if j = (td_cc st p).1 then st p else (td_cc st p).2.1 j) < 10 ∧ 1 ≤ (if j = (td_cc st p).1 then 1 else (td_cc st p).2.2 j) ∧ (if j = (td_cc st p).1 then 1 else (td_cc st p).2.2 j) ≤ p + 1
        by_cases y : j = (td_cc st p).1
        · rw [if_pos y, if_pos y]; omega
        · rw [if_neg y, if_neg y]
          obtain ⟨k1, k2, k3⟩ := i3 j (by omega)
          exact ⟨k1, k2, by omega⟩
def td_sm (R : List Nat) : Prop := ∀ i, i < R.length → td_gt R i < 10
theorem td_smp {R : List Nat} {k : Nat} (h : td_sm R) (hk : k < 10) : td_sm (R ++ [k]) := by
  intro i hi
  rw [td_len1] at hi
  rw [td_gt_app1 hi]
  split
  · exact h i ‹_›
  · exact hk
theorem td_smr {c : Nat → Nat} (hc : ∀ i, c i < 10) : ∀ d i R, td_sm R → td_sm (R ++ td_rg c i d) := by
  intro d
  induction d with
  | zero => intro i R h; rw [show td_rg c i 0 = [] from rfl, List.append_nil]; exact h
  | succ d ih => intro i R h; rw [td_rg_snoc]; exact ih _ _ (td_smp h (hc i))
def td_rX (R : List Nat) (rc : Int32) (rk rl : Nat → Int32) : Prop := rc = nI (td_cc (td_gt R) R.length).1 ∧ ∀ j, j < (td_cc (td_gt R) R.length).1 → rk j = nI ((td_cc (td_gt R) R.length).2.1 j) ∧ rl j = nI ((td_cc (td_gt R) R.length).2.2 j)
theorem td_rX0 (rk rl : Nat → Int32) : td_rX [] (nI 0) rk rl := ⟨rfl, fun j h => absurd h (Nat.not_lt_zero _)⟩
theorem td_ccA {R : List Nat} {k : Nat} : td_cc (td_gt (R ++ [k])) R.length = td_cc (td_gt R) R.length := td_ccE _ (fun i hi => td_gt_lo hi)
theorem td_p1 {p : Nat} (h : 0 < p) : nI p - 1 = nI (p - 1) := pk_sub (b := 1) h
/-- the steps of a list, from behind gap G on -/
def td_P (L : List Nat) : Nat → Nat → Nat → List Nat → List Nat
  | 0, _, _, R => R
  | d + 1, G, p, R => td_P L d (G + 1) (td_e L (td_nx L G p)) ((R ++ [if p < L.length ∧ td_gt L p = 10 + G then 1 else 2]) ++ td_rg (fun _ => 3) (td_nx L G p) (td_e L (td_nx L G p) - td_nx L G p))
theorem td_nxp {L : List Nat} {G p : Nat} : p ≤ td_nx L G p ∧ td_nx L G p ≤ p + 1 := by
  unfold td_nx
  split <;> omega
theorem td_Pl {L : List Nat} (hi : td_inc (td_gt L) L.length) : ∀ d G p R, td_At (td_gt L) L.length G p → R.length ≤ G + p → td_sm R → td_sm (td_P L d G p R) ∧ (td_P L d G p R).length ≤ G + d + L.length := by
  intro d
  induction d with
  | zero => intro G p R hA hl hs; have := hA.1; exact ⟨hs, by show R.length ≤ _; omega⟩
  | succ d ih =>
    intro G p R hA hl hs
    have e1 := (td_eP (td_nxBe hi hA).1).1
    have e2 := td_nxp (L := L) (G := G) (p := p)
    have := ih (G + 1) _ ((R ++ [if p < L.length ∧ td_gt L p = 10 + G then 1 else 2]) ++ td_rg (fun _ => 3) (td_nx L G p) (td_e L (td_nx L G p) - td_nx L G p)) (td_nxAt hi hA) (by rw [List.length_append, td_rg_len, td_len1]; omega) (td_smr (fun _ => by decide) _ _ _ (td_smp hs (by split <;> decide)))
    exact ⟨this.1, by have h2 := this.2; show (td_P L d (G + 1) _ _).length ≤ _; omega⟩
section
variable {f_workIn f_workOut f_workUsed f_documentLength f_draftLength f_runCount : Int32} {a_slotItems a_slotIn a_slotOut a_workItems a_document a_draft a_draftDocument a_runKinds a_runLengths : Nat → Int32}
variable {y_workIn y_used y_items y_length y_size y_printed : Int32} {b_out b_outLen b_inLen b_work b_doc b_result b_print : Nat → Int32}
variable {inn : Nat → Nat} {g : Nat → List Nat}
theorem td_xpush {post : SX → Prop} {R : List Nat} {k : Nat} {rc : Int32} {rk rl : Nat → Int32} (hR : R.length < 80) (hs : td_sm R) (hn : ¬ (0 < R.length ∧ k = td_gt R (R.length - 1))) (h : td_rX R rc rk rl) (hp : ∀ rc' rk' rl', td_rX (R ++ [k]) rc' rk' rl' → post (f_workIn, f_workOut, f_workUsed, f_documentLength, f_draftLength, rc', a_slotItems, a_slotIn, a_slotOut, a_workItems, a_document, a_draft, a_draftDocument, rk', rl')) : wX_listStep_40 post (nI k) f_workIn f_workOut f_workUsed f_documentLength f_draftLength rc a_slotItems a_slotIn a_slotOut a_workItems a_document a_draft a_draftDocument rk rl := by
  obtain ⟨e1, e2⟩ := h
  obtain ⟨i1, i2, i3⟩ := td_ccP R.length hs
  subst e1
  have hn2 : ¬ (0 < R.length ∧ td_gt (R ++ [k]) R.length = td_gt (R ++ [k]) (R.length - 1)) := by
    intro w
    rw [td_gt_last, td_gt_lo (by omega)] at w
    exact hn w
  have hN := td_ccN hn2
  rw [td_ccA, td_gt_last] at hN
  have hin : vp_in (nI (td_cc (td_gt R) R.length).1) 80 := vp_in_nI (by omega) (by decide)
  refine ⟨hin, nm_e ⟨hin, nm_e (nm_r (nI_1 _) (hp _ _ _ ?_))⟩⟩
  unfold td_rX
  rw [td_len1, hN, nI_clamp (by omega)]
  refine ⟨rfl, fun j hj => ?_⟩
  have hj2 : j < (td_cc (td_gt R) R.length).1 + 1 := hj
  show upd rk _ _ j = nI (if j = (td_cc (td_gt R) R.length).1 then k else (td_cc (td_gt R) R.length).2.1 j) ∧ upd rl _ _ j = nI (if j = (td_cc (td_gt R) R.length).1 then 1 else (td_cc (td_gt R) R.length).2.2 j)
  by_cases z : j = (td_cc (td_gt R) R.length).1
  · rw [if_pos z, if_pos z, z, pk_us, pk_us]; exact ⟨rfl, rfl⟩
  · rw [if_neg z, if_neg z, pk_un z, pk_un z]; exact e2 j (by omega)
theorem td_xstep {post : SX → Prop} {R : List Nat} {k : Nat} {rc : Int32} {rk rl : Nat → Int32} (hk : k < 10) (hR : R.length < 80) (hs : td_sm R) (h : td_rX R rc rk rl) (hp : ∀ rc' rk' rl', td_rX (R ++ [k]) rc' rk' rl' → post (f_workIn, f_workOut, f_workUsed, f_documentLength, f_draftLength, rc', a_slotItems, a_slotIn, a_slotOut, a_workItems, a_document, a_draft, a_draftDocument, rk', rl')) : wpX_listStep post (f_workIn, f_workOut, f_workUsed, f_documentLength, f_draftLength, rc, a_slotItems, a_slotIn, a_slotOut, a_workItems, a_document, a_draft, a_draftDocument, rk, rl) (nI k) := by
  have h' := h
  obtain ⟨e1, e2⟩ := h
  obtain ⟨i1, i2, i3⟩ := td_ccP R.length hs
  subst e1
  refine pk_le (td_cc (td_gt R) R.length).1 0 (fun z => ?_) (fun z => ?_)
  · refine td_xpush hR hs ?_ h' hp
    intro w
    have := (i2 w.1).1
    omega
  · have hpos : 0 < R.length := by omega
    obtain ⟨j1, j2⟩ := i2 hpos
    obtain ⟨m1, m2⟩ := e2 ((td_cc (td_gt R) R.length).1 - 1) (by omega)
    obtain ⟨n1, n2, n3⟩ := i3 ((td_cc (td_gt R) R.length).1 - 1) (by omega)
    rw [td_p1 z]
    have hin : vp_in (nI ((td_cc (td_gt R) R.length).1 - 1)) 80 := vp_in_nI (by omega) (by decide)
    refine ⟨hin, ?_⟩
    rw [nI_clamp (by omega), m1, m2]
    refine pk_eq _ k (fun w => ⟨hin, hin, nm_e (hp _ _ _ ?_)⟩) (fun w => td_xpush hR hs ?_ h' hp)
    · have hc : 0 < R.length ∧ td_gt (R ++ [k]) R.length = td_gt (R ++ [k]) (R.length - 1) := by
        refine ⟨hpos, ?_⟩
        rw [td_gt_last, td_gt_lo (by omega), ← j2, w]
      have hS := td_ccS hc
      rw [td_ccA] at hS
      unfold td_rX
      rw [td_len1, hS]
      refine ⟨rfl, fun j hj => ?_⟩
      have hj2 : j < (td_cc (td_gt R) R.length).1 := hj
      obtain ⟨q1, q2⟩ := e2 j hj2
      show rk j = nI ((td_cc (td_gt R) R.length).2.1 j) ∧ upd rl _ _ j = nI (if j = (td_cc (td_gt R) R.length).1 - 1 then (td_cc (td_gt R) R.length).2.2 j + 1 else (td_cc (td_gt R) R.length).2.2 j)
      refine ⟨q1, ?_⟩
      by_cases y : j = (td_cc (td_gt R) R.length).1 - 1
      · rw [if_pos y, y, pk_us, nI_1]
      · rw [if_neg y, pk_un y]; exact q2
    · intro y
      exact w (by rw [j2]; exact y.2.symm)
theorem td_xadd {post : SX → Prop} {J : Int32 → Int32 → Int32 → Int32 → Int32 → Int32 → Int32 → Int32 → (Nat → Int32) → (Nat → Int32) → (Nat → Int32) → (Nat → Int32) → (Nat → Int32) → (Nat → Int32) → (Nat → Int32) → (Nat → Int32) → (Nat → Int32) → Prop} {s G e : Nat} (he : e ≤ 40) : ∀ n i R rc rk rl, i ≤ e → e - i < n → R.length + (e - i) ≤ 80 → td_sm R → td_rX R rc rk rl → (∀ rc' rk' rl', td_rX (R ++ td_rg (fun _ => 3) i (e - i)) rc' rk' rl' → J (nI e) (nI (G + 1)) f_workIn f_workOut f_workUsed f_documentLength f_draftLength rc' a_slotItems a_slotIn a_slotOut a_workItems a_document a_draft a_draftDocument rk' rl') → wX_listRuns_62 post J (nI s) (nI G) (nI e) n (nI i) f_workIn f_workOut f_workUsed f_documentLength f_draftLength rc a_slotItems a_slotIn a_slotOut a_workItems a_document a_draft a_draftDocument rk rl := by
  intro n
  induction n with
  | zero => intro i R rc rk rl _ h; exact absurd h (Nat.not_lt_zero _)
  | succ n ih =>
    intro i R rc rk rl hi hn hl hs h hp
    refine pk_le e i (fun z => nm_r (nI_1 _) ?_) (fun z => ?_)
    · rw [show e - i = 0 from by omega, show td_rg (fun _ => 3) i 0 = [] from rfl, List.append_nil] at hp
      exact hp rc rk rl h
    · rw [td_rg_step R _ z] at hp
      exact td_xstep (k := 3) (by decide) (by omega) hs h (fun rc' rk' rl' h' => nm_r (nI_1 _) (ih (i + 1) _ rc' rk' rl' (by omega) (by omega) (by rw [td_len1]; omega) (td_smp hs (by decide)) h' hp))
theorem td_x51 {post : SX → Prop} {J : Int32 → Int32 → Int32 → Int32 → Int32 → Int32 → Int32 → Int32 → (Nat → Int32) → (Nat → Int32) → (Nat → Int32) → (Nat → Int32) → (Nat → Int32) → (Nat → Int32) → (Nat → Int32) → (Nat → Int32) → (Nat → Int32) → Prop} {s G p : Nat} {R : List Nat} {rc : Int32} {rk rl : Nat → Int32} (hs : s < 4) (hG : td_SG inn g) (hX : td_SX inn g a_slotItems a_slotIn a_slotOut) (hp1 : p ≤ (g s).length) (hl : R.length + (td_e (g s) p - p) ≤ 80) (hsm : td_sm R) (h : td_rX R rc rk rl) (hp : ∀ rc' rk' rl', td_rX (R ++ td_rg (fun _ => 3) p (td_e (g s) p - p)) rc' rk' rl' → J (nI (td_e (g s) p)) (nI (G + 1)) f_workIn f_workOut f_workUsed f_documentLength f_draftLength rc' a_slotItems a_slotIn a_slotOut a_workItems a_document a_draft a_draftDocument rk' rl') : wX_listRuns_51 post J (nI s) (nI p) (nI G) f_workIn f_workOut f_workUsed f_documentLength f_draftLength rc a_slotItems a_slotIn a_slotOut a_workItems a_document a_draft a_draftDocument rk rl := by
  obtain ⟨a1, a2, -, -⟩ := td_eP hp1
  have hL := (hG s hs).2.1
  exact td_xend hs hG hX hp1 ⟨td_e (g s) p - p + 1, td_xadd (by omega) _ p R rc rk rl a1 (by omega) hl hsm h hp⟩
theorem td_xrloop {post : SX → Prop} {s : Nat} (hs : s < 4) (hG : td_SG inn g) (hX : td_SX inn g a_slotItems a_slotIn a_slotOut) : ∀ d G p R rc rk rl, G + d = inn s → td_At (td_gt (g s)) (g s).length G p → R.length ≤ G + p → td_sm R → td_rX R rc rk rl → (∀ rc' rk' rl', td_rX (td_P (g s) d G p R) rc' rk' rl' → post (f_workIn, f_workOut, f_workUsed, f_documentLength, f_draftLength, rc', a_slotItems, a_slotIn, a_slotOut, a_workItems, a_document, a_draft, a_draftDocument, rk', rl')) → wX_listRuns_9 post (nI s) (d + 1) (nI p) (nI (G + 1)) f_workIn f_workOut f_workUsed f_documentLength f_draftLength rc a_slotItems a_slotIn a_slotOut a_workItems a_document a_draft a_draftDocument rk rl := by
  have hm4 := (hG s hs).1
  have hL := (hG s hs).2.1
  have hi : td_inc (td_gt (g s)) (g s).length := fun i j h1 h2 h3 => (hG s hs).2.2.2 i j h1 h2 h3
  intro d
  induction d with
  | zero =>
    intro G p R rc rk rl h1 hA hl hsm h hp
    exact ⟨td_s4 hs, pk_lt (inn s) (G + 1) (fun _ => hp rc rk rl h) (fun z => absurd z (by omega)) (td_nX hX hs)⟩
  | succ d ih =>
    intro G p R rc rk rl h1 hA hl hsm h hp
    have nB := (td_nxBe hi hA).1
    have nA := td_nxAt hi hA
    have nA1 := nA.1
    have e1 := (td_eP nB).1
    have e2 := td_nxp (L := g s) (G := G) (p := p)
    have p1 := hA.1
    refine ⟨td_s4 hs, pk_lt (inn s) (G + 1) (fun z => absurd z (by omega)) (fun _ => ?_) (td_nX hX hs)⟩
    rw [nI_pred]
    refine td_xkn hs hG hX hA.1 (by omega) (fun k => ?_) (fun k => ?_)
    · have eN : td_nx (g s) G p = p + 1 := if_pos k
      have hp2 : ∀ rc' rk' rl', td_rX (td_P (g s) d (G + 1) (td_e (g s) (td_nx (g s) G p)) ((R ++ [if p < (g s).length ∧ td_gt (g s) p = 10 + G then 1 else 2]) ++ td_rg (fun _ => 3) (td_nx (g s) G p) (td_e (g s) (td_nx (g s) G p) - td_nx (g s) G p))) rc' rk' rl' → post (f_workIn, f_workOut, f_workUsed, f_documentLength, f_draftLength, rc', a_slotItems, a_slotIn, a_slotOut, a_workItems, a_document, a_draft, a_draftDocument, rk', rl') := hp
      rw [if_pos k] at hp2
      refine br_f td_10ne (td_xstep (k := 1) (by decide) (by omega) hsm h (fun rc1 rk1 rl1 h1' => nm_r (nI_1 _) ?_))
      rw [← eN]
      refine td_x51 hs hG hX nB (by rw [td_len1]; omega) (td_smp hsm (by decide)) h1' (fun rc2 rk2 rl2 h2' => ?_)
      exact ih (G + 1) _ _ rc2 rk2 rl2 (by omega) nA (by rw [List.length_append, td_rg_len, td_len1]; omega) (td_smr (fun _ => by decide) _ _ _ (td_smp hsm (by decide))) h2' hp2
    · have eN : td_nx (g s) G p = p := if_neg k
      have hp2 : ∀ rc' rk' rl', td_rX (td_P (g s) d (G + 1) (td_e (g s) (td_nx (g s) G p)) ((R ++ [if p < (g s).length ∧ td_gt (g s) p = 10 + G then 1 else 2]) ++ td_rg (fun _ => 3) (td_nx (g s) G p) (td_e (g s) (td_nx (g s) G p) - td_nx (g s) G p))) rc' rk' rl' → post (f_workIn, f_workOut, f_workUsed, f_documentLength, f_draftLength, rc', a_slotItems, a_slotIn, a_slotOut, a_workItems, a_document, a_draft, a_draftDocument, rk', rl') := hp
      rw [if_neg k] at hp2
      refine br_t rfl (pk_le (G + 1) 0 (fun z => absurd z (by omega)) (fun _ => ?_))
      refine td_xstep (k := 2) (by decide) (by omega) hsm h (fun rc1 rk1 rl1 h1' => ?_)
      rw [eN] at nB nA e1 nA1 hp2
      refine td_x51 hs hG hX nB (by rw [td_len1]; omega) (td_smp hsm (by decide)) h1' (fun rc2 rk2 rl2 h2' => ?_)
      exact ih (G + 1) _ _ rc2 rk2 rl2 (by omega) nA (by rw [List.length_append, td_rg_len, td_len1]; omega) (td_smr (fun _ => by decide) _ _ _ (td_smp hsm (by decide))) h2' hp2
end
def td_st (L : List Nat) (m : Nat) : List Nat := td_P L m 0 (td_e L 0) ([] ++ td_rg (fun _ => 3) 0 (td_e L 0 - 0))
section
variable {f_workIn f_workOut f_workUsed f_documentLength f_draftLength f_runCount : Int32} {a_slotItems a_slotIn a_slotOut a_workItems a_document a_draft a_draftDocument a_runKinds a_runLengths : Nat → Int32}
variable {inn : Nat → Nat} {g : Nat → List Nat}
theorem td_xlist {post : SX → Prop} {s : Nat} (hs : s < 4) (hG : td_SG inn g) (hX : td_SX inn g a_slotItems a_slotIn a_slotOut) (hp : ∀ rc' rk' rl', td_rX (td_st (g s) (inn s)) rc' rk' rl' → post (f_workIn, f_workOut, f_workUsed, f_documentLength, f_draftLength, rc', a_slotItems, a_slotIn, a_slotOut, a_workItems, a_document, a_draft, a_draftDocument, rk', rl')) : wpX_listRuns post (f_workIn, f_workOut, f_workUsed, f_documentLength, f_draftLength, f_runCount, a_slotItems, a_slotIn, a_slotOut, a_workItems, a_document, a_draft, a_draftDocument, a_runKinds, a_runLengths) (nI s) := by
  have hm4 := (hG s hs).1
  have hL := (hG s hs).2.1
  have e := (td_eP (L := g s) (p := 0) (Nat.zero_le _)).2.1
  refine ⟨inn s + 1 + 1, ?_⟩
  refine ⟨td_s4 hs, pk_lt (inn s) 0 (fun z => absurd z (Nat.not_lt_zero _)) (fun _ => ?_) (td_nX hX hs)⟩
  refine td_xkn0 (p := 0) hs hG hX (Nat.zero_le _) td_0m1 (br_t rfl (pk_le 0 0 (fun _ => ?_) (fun z => absurd z (Nat.not_lt_zero _))))
  refine td_x51 (p := 0) (G := 0) (R := []) hs hG hX (Nat.zero_le _) (by show 0 + _ ≤ 80; omega) (fun i h => absurd h (Nat.not_lt_zero _)) (td_rX0 _ _) (fun rc1 rk1 rl1 h1 => ?_)
  exact td_xrloop hs hG hX (inn s) 0 _ _ rc1 rk1 rl1 (by omega) td_At0 (by rw [List.length_append, td_rg_len]; show 0 + _ ≤ _; omega) (td_smr (fun _ => by decide) _ _ _ (fun i h => absurd h (Nat.not_lt_zero _))) h1 hp
end
theorem td_stp {inn : Nat → Nat} {g : Nat → List Nat} {s : Nat} (hs : s < 4) (hG : td_SG inn g) : td_sm (td_st (g s) (inn s)) ∧ (td_st (g s) (inn s)).length ≤ 80 := by
  have hm4 := (hG s hs).1
  have hL := (hG s hs).2.1
  have hi : td_inc (td_gt (g s)) (g s).length := fun i j h1 h2 h3 => (hG s hs).2.2.2 i j h1 h2 h3
  obtain ⟨a, b⟩ := td_Pl hi (inn s) 0 (td_e (g s) 0) ([] ++ td_rg (fun _ => 3) 0 (td_e (g s) 0 - 0)) td_At0 (by rw [List.length_append, td_rg_len]; show 0 + _ ≤ _; omega) (td_smr (fun _ => by decide) _ _ _ (fun i h => absurd h (Nat.not_lt_zero _)))
  exact ⟨a, by unfold td_st; omega⟩
