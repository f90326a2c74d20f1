section
theorem pk_us {f : Nat → Int32} {k : Nat} {x : Int32} : upd f k x k = x := if_pos rfl
theorem pk_un {f : Nat → Int32} {k j : Nat} {x : Int32} (h : j ≠ k) : upd f k x j = f j := if_neg h
theorem pk_sub {a b : Nat} (h : b ≤ a) : nI a - nI b = nI (a - b) := by
  obtain ⟨c, rfl⟩ : ∃ c, a = c + b := ⟨a - b, by omega⟩
  rw [← nI_add, Int32.add_sub_cancel, Nat.add_sub_cancel]
theorem pk_mul (a b : Nat) : nI a * nI b = nI (a * b) := (Int32.ofNat_mul a b).symm
theorem pk_ix (x : Int32) {n : Nat} (hn : n < 2 ^ 31) : x < 0 ∨ nI n ≤ x ∨ ∃ j : Nat, j < n ∧ x = nI j := by
  by_cases h : x < 0
  · exact Or.inl h
  · obtain ⟨j, hj, rfl⟩ := nI_of h
    by_cases h2 : j < n
    · exact Or.inr (Or.inr ⟨j, h2, rfl⟩)
    · exact Or.inr (Or.inl (nI_le (by omega) hj))
theorem pk_le {x y : Int32} {A B : Prop} (a b : Nat) (f : a ≤ b → A) (g : b < a → B) (hx : x = nI a := by rfl) (hy : y = nI b := by rfl) (ha : a < 2 ^ 31 := by omega) (hb : b < 2 ^ 31 := by omega) : (x ≤ y → A) ∧ (¬ x ≤ y → B) := by
  subst hx hy
  rw [nI_leI ha hb]
  exact ⟨f, fun z => g (by omega)⟩
theorem pk_lt {x y : Int32} {A B : Prop} (a b : Nat) (f : a < b → A) (g : b ≤ a → B) (hx : x = nI a := by rfl) (hy : y = nI b := by rfl) (ha : a < 2 ^ 31 := by omega) (hb : b < 2 ^ 31 := by omega) : (x < y → A) ∧ (¬ x < y → B) := by
  subst hx hy
  rw [nI_ltI ha hb]
  exact ⟨f, fun z => g (by omega)⟩
theorem pk_eq {x y : Int32} {A B : Prop} (a b : Nat) (f : a = b → A) (g : a ≠ b → B) (hx : x = nI a := by rfl) (hy : y = nI b := by rfl) (ha : a < 2 ^ 31 := by omega) (hb : b < 2 ^ 31 := by omega) : (x = y → A) ∧ (¬ x = y → B) := by
  subst hx hy
  rw [nI_eq ha hb]
  exact ⟨f, g⟩
theorem pk_in {x : Int32} (n N : Nat) (h : n < N) (hx : x = nI n := by rfl) (hN : N < 2 ^ 31 := by omega) : vp_in x N := by
  subst hx
  exact vp_in_nI h hN
theorem pk_cl {x : Int32} (n : Nat) (hx : x = nI n := by rfl) (h : n < 2 ^ 31 := by omega) : x.toNatClampNeg = n := by
  subst hx
  exact nI_clamp h
theorem pk_sub_toInt {a b : Nat} (ha : a < 2 ^ 30) (hb : b < 2 ^ 30) : (nI a - nI b).toInt = (a : Int) - b := by
  rw [Int32.toInt_sub, nI_toInt (by omega), nI_toInt (by omega)]
  exact Int.bmod_eq_of_le (by omega) (by omega)
theorem pk_sneg {a b : Nat} (hb : b < 2 ^ 30) (h : a < b) : nI a - nI b < 0 := by
  rw [Int32.lt_iff_toInt_lt, pk_sub_toInt (by omega) hb, show (0 : Int32).toInt = 0 from by decide]
  omega
/-! numbers -/
theorem td_ix (a i : Nat) : nI a * 40 + nI i = nI (a * 40 + i) := by
  rw [show (40 : Int32) = nI 40 from rfl, pk_mul, nI_add]
theorem td_10 (i : Nat) : 10 + nI i = nI (10 + i) := by
  rw [show (10 : Int32) = nI 10 from rfl, nI_add]
theorem td_100 (i : Nat) : 100 + nI i = nI (100 + i) := by
  rw [show (100 : Int32) = nI 100 from rfl, nI_add]
theorem td_s10 {i : Nat} (h : 10 ≤ i) : nI i - 10 = nI (i - 10) := by
  rw [show (10 : Int32) = nI 10 from rfl, pk_sub h]
theorem td_s100 {i : Nat} (h : 100 ≤ i) : nI i - 100 = nI (i - 100) := by
  rw [show (100 : Int32) = nI 100 from rfl, pk_sub h]
theorem td_nm1 {i : Nat} (h : i < 2 ^ 31) : ¬ nI i = -1 := by
  intro e
  have := congrArg Int32.toInt e
  rw [nI_toInt h] at this
  have h2 : (-1 : Int32).toInt = -1 := by decide
  rw [h2] at this
  omega
theorem td_m1neg : (-1 : Int32) < 0 := by decide
theorem td_0m1 : nI 0 - 1 = (-1 : Int32) := by decide
/-! lists -/
def td_cx (t : Nat) : Nat := if t < 10 then 100 + t else t - 10
theorem td_cxN {t : Nat} (h : t < 10) : td_cx t = 100 + t := if_pos h
theorem td_cxK {t : Nat} (h : 10 ≤ t) : td_cx t = t - 10 := if_neg (by omega)
theorem td_cx10 (s : Nat) : td_cx (10 + s) = s := by rw [td_cxK (by omega)]; omega
theorem td_cx_inj {s t : Nat} (hs : s < 60) (ht : t < 60) : td_cx s = td_cx t ↔ s = t := by
  unfold td_cx
  constructor
  · intro h; split at h <;> split at h <;> omega
  · intro h; rw [h]
theorem td_cx_lt {t : Nat} (h : t < 60) : td_cx t < 120 := by
  unfold td_cx; split <;> omega
def td_gt (L : List Nat) (i : Nat) : Nat := L.getD i 0
theorem td_gt_lo {L M : List Nat} {i : Nat} (h : i < L.length) : td_gt (L ++ M) i = td_gt L i := by
  unfold td_gt
  rw [List.getD_eq_getElem?_getD, List.getD_eq_getElem?_getD, List.getElem?_append_left h]
theorem td_gt_hi {L M : List Nat} {i : Nat} : td_gt (L ++ M) (L.length + i) = td_gt M i := by
  unfold td_gt
  rw [List.getD_eq_getElem?_getD, List.getD_eq_getElem?_getD, List.getElem?_append_right (by omega)]
  congr 2
  omega
theorem td_gt_last {L : List Nat} {x : Nat} : td_gt (L ++ [x]) L.length = x := by
  have := @td_gt_hi L [x] 0
  rw [Nat.add_zero] at this
  rw [this]
  rfl
theorem td_gt_map {L : List Nat} {c : Nat → Nat} {i : Nat} (h : i < L.length) : td_gt (L.map c) i = c (td_gt L i) := by
  unfold td_gt
  rw [List.getD_eq_getElem?_getD, List.getD_eq_getElem?_getD, List.getElem?_map, List.getElem?_eq_getElem h]
  rfl
theorem td_gt_app1 {L : List Nat} {x i : Nat} (h : i < L.length + 1) : td_gt (L ++ [x]) i = if i < L.length then td_gt L i else x := by
  split
  · exact td_gt_lo ‹_›
  · have : i = L.length := by omega
    rw [this, td_gt_last]
theorem td_len1 {L : List Nat} {x : Nat} : (L ++ [x]).length = L.length + 1 := by simp
/-! well-formed lists: m is above every kept place -/
def td_wf (m : Nat) (L : List Nat) : Prop := (∀ i, i < L.length → td_gt L i < 10 + m) ∧ ∀ i j, i < j → j < L.length → 10 ≤ td_gt L i → td_gt L i < td_gt L j ∨ td_gt L j < 10
theorem td_wf0 (m : Nat) : td_wf m [] := ⟨fun i h => absurd h (Nat.not_lt_zero _), fun i j _ h => absurd h (Nat.not_lt_zero _)⟩
theorem td_wfN {m x : Nat} {L : List Nat} (h : td_wf m L) (hx : x < 10) : td_wf m (L ++ [x]) := by
  refine ⟨fun i hi => ?_, fun i j hij hj h10 => ?_⟩
  · rw [td_len1] at hi
    rw [td_gt_app1 hi]
    split
    · exact h.1 i ‹_›
    · omega
  · rw [td_len1] at hj
    rw [td_gt_app1 (by omega), if_pos (by omega)] at h10 ⊢
    rw [td_gt_app1 hj]
    split
    · exact h.2 i j hij ‹_› h10
    · exact Or.inr hx
theorem td_wfK {m s : Nat} {L : List Nat} (h : td_wf m L) (hs : m ≤ s) : td_wf (s + 1) (L ++ [10 + s]) := by
  refine ⟨fun i hi => ?_, fun i j hij hj h10 => ?_⟩
  · rw [td_len1] at hi
    rw [td_gt_app1 hi]
    split
    · have := h.1 i ‹_›
      omega
    · omega
  · rw [td_len1] at hj
    rw [td_gt_app1 (by omega), if_pos (by omega)] at h10 ⊢
    rw [td_gt_app1 hj]
    split
    · exact h.2 i j hij ‹_› h10
    · have := h.1 i (by omega)
      omega
theorem td_wfM {m m' : Nat} {L : List Nat} (h : td_wf m L) (hm : m ≤ m') : td_wf m' L :=
  ⟨fun i hi => by have := h.1 i hi; omega, h.2⟩
/-! ranges -/
def td_rg (c : Nat → Nat) : Nat → Nat → List Nat
  | _, 0 => []
  | i, d + 1 => c i :: td_rg c (i + 1) d
theorem td_rg_len (c : Nat → Nat) : ∀ d i, (td_rg c i d).length = d := by
  intro d
  induction d with
  | zero => intro i; rfl
  | succ d ih => intro i; show (td_rg c (i + 1) d).length + 1 = d + 1; rw [ih]
theorem td_rg_snoc (R : List Nat) (c : Nat → Nat) (i d : Nat) : R ++ td_rg c i (d + 1) = (R ++ [c i]) ++ td_rg c (i + 1) d := by
  show R ++ (c i :: td_rg c (i + 1) d) = _
  rw [List.append_assoc]; rfl
theorem td_rg_step (R : List Nat) (c : Nat → Nat) {i e : Nat} (h : i < e) : R ++ td_rg c i (e - i) = (R ++ [c i]) ++ td_rg c (i + 1) (e - (i + 1)) := by
  rw [show e - i = (e - (i + 1)) + 1 from by omega, td_rg_snoc]
theorem td_rg_wfK (d : Nat) : ∀ (R : List Nat) (i : Nat), td_wf i R → td_wf (i + d) (R ++ td_rg (fun p => 10 + p) i d) := by
  induction d with
  | zero => intro R i h; rw [show td_rg (fun p => 10 + p) i 0 = [] from rfl, List.append_nil]; exact h
  | succ d ih =>
    intro R i h
    rw [td_rg_snoc, show i + (d + 1) = (i + 1) + d from by omega]
    exact ih _ _ (td_wfK h (Nat.le_refl _))
theorem td_rg_wfN {m : Nat} {c : Nat → Nat} (d : Nat) : ∀ (R : List Nat) (i : Nat), td_wf m R → (∀ j, i ≤ j → j < i + d → c j < 10) → td_wf m (R ++ td_rg c i d) := by
  induction d with
  | zero => intro R i h _; rw [show td_rg c i 0 = [] from rfl, List.append_nil]; exact h
  | succ d ih =>
    intro R i h hc
    rw [td_rg_snoc]
    exact ih _ _ (td_wfN h (hc i (by omega) (by omega))) (fun j h1 h2 => hc j (by omega) (by omega))
/-! the walk over a list: f its codes, n its length; ga: the gap that stands before i -/
def td_ga (f : Nat → Nat) : Nat → Nat
  | 0 => 0
  | i + 1 => if f i < 10 then td_ga f i else f i - 10 + 1
theorem td_ga_le {f : Nat → Nat} {g : Nat} : ∀ i, (∀ j, j < i → f j < 10 + g) → td_ga f i ≤ g := by
  intro i
  induction i with
  | zero => intro _; exact Nat.zero_le _
  | succ i ih =>
    intro h
    have h1 := ih (fun j hj => h j (by omega))
    have h2 := h i (by omega)
    show (if f i < 10 then td_ga f i else f i - 10 + 1) ≤ g
    split <;> omega
theorem td_ga_new {f : Nat → Nat} {a : Nat} : ∀ i, a ≤ i → (∀ j, a ≤ j → j < i → f j < 10) → td_ga f i = td_ga f a := by
  intro i
  induction i with
  | zero => intro h _; rw [show a = 0 from by omega]
  | succ i ih =>
    intro h hn
    by_cases z : a = i + 1
    · rw [z]
    · show (if f i < 10 then td_ga f i else f i - 10 + 1) = _
      rw [if_pos (hn i (by omega) (by omega))]
      exact ih (by omega) (fun j h1 h2 => hn j h1 (by omega))
def td_inc (f : Nat → Nat) (n : Nat) : Prop := ∀ i j, i < j → j < n → 10 ≤ f i → f i < f j ∨ f j < 10
theorem td_ga_ge {f : Nat → Nat} {n a : Nat} (hi : td_inc f n) (ha : 10 ≤ f a) : ∀ i, a < i → i ≤ n → f a - 10 + 1 ≤ td_ga f i := by
  intro i
  induction i with
  | zero => intro h; exact absurd h (Nat.not_lt_zero _)
  | succ i ih =>
    intro h hn
    show _ ≤ (if f i < 10 then td_ga f i else f i - 10 + 1)
    by_cases z : a = i
    · subst z; rw [if_neg (by omega)]; omega
    · split
      · exact ih (by omega) (by omega)
      · have := hi a i (by omega) (by omega) ha
        omega
/-- behind gap g: p is the end of that gap -/
def td_At (f : Nat → Nat) (n g p : Nat) : Prop := p ≤ n ∧ (∀ i, i < p → f i < 10 + g) ∧ (p < n → 10 + g ≤ f p)
/-- before gap g -/
def td_Be (f : Nat → Nat) (n g p : Nat) : Prop := p ≤ n ∧ (∀ i, i < p → f i < 10 → td_ga f i ≠ g) ∧ (p < n → f p < 10 → td_ga f p = g) ∧ (∀ i, i < p → f i < 10 + g) ∧ (∀ i, p ≤ i → i < n → 10 ≤ f i → 10 + g ≤ f i)
theorem td_Be0 (f : Nat → Nat) (n : Nat) : td_Be f n 0 0 :=
  ⟨Nat.zero_le _, fun i h => absurd h (Nat.not_lt_zero _), fun _ _ => rfl, fun i h => absurd h (Nat.not_lt_zero _), fun i _ _ h => h⟩
theorem td_BeK {f : Nat → Nat} {n g p : Nat} (hi : td_inc f n) (h : td_At f n g p) (hp : p < n) (hk : f p = 10 + g) : td_Be f n (g + 1) (p + 1) := by
  obtain ⟨h1, h2, h3⟩ := h
  refine ⟨by omega, fun i ha hb => ?_, fun _ _ => ?_, fun i ha => ?_, fun i ha hb hc => ?_⟩
  · have : i ≠ p := by intro e; rw [e, hk] at hb; omega
    have := td_ga_le (f := f) (g := g) i (fun j hj => h2 j (by omega))
    omega
  · show (if f p < 10 then td_ga f p else f p - 10 + 1) = g + 1
    rw [if_neg (by omega)]; omega
  · by_cases z : i = p
    · rw [z, hk]; omega
    · have := h2 i (by omega); omega
  · have := hi p i (by omega) hb (by omega)
    omega
theorem td_BeD {f : Nat → Nat} {n g p : Nat} (hi : td_inc f n) (h : td_At f n g p) (hk : ¬ (p < n ∧ f p = 10 + g)) : td_Be f n (g + 1) p := by
  obtain ⟨h1, h2, h3⟩ := h
  refine ⟨by omega, fun i ha hb => ?_, fun ha hb => ?_, fun i ha => ?_, fun i ha hb hc => ?_⟩
  · have := td_ga_le (f := f) (g := g) i (fun j hj => h2 j (by omega))
    omega
  · have := h3 ha; omega
  · have := h2 i ha; omega
  · have h4 := h3 (by omega)
    have h5 : f p ≠ 10 + g := fun e => hk ⟨by omega, e⟩
    by_cases z : i = p
    · rw [z]; omega
    · have := hi p i (by omega) hb (by omega)
      omega
theorem td_AtD {f : Nat → Nat} {n g p : Nat} (h : td_At f n g p) (hk : ¬ (p < n ∧ f p = 10 + g)) : td_At f n (g + 1) p := by
  obtain ⟨h1, h2, h3⟩ := h
  refine ⟨h1, fun i ha => ?_, fun ha => ?_⟩
  · have := h2 i ha; omega
  · have := h3 ha
    have h5 : f p ≠ 10 + g := fun e => hk ⟨by omega, e⟩
    omega
/-- e is the end of the new items from p on -/
def td_En (f : Nat → Nat) (n p e : Nat) : Prop := p ≤ e ∧ e ≤ n ∧ (∀ i, p ≤ i → i < e → f i < 10) ∧ (e < n → 10 ≤ f e)
theorem td_AtE {f : Nat → Nat} {n g p e : Nat} (h : td_Be f n g p) (he : td_En f n p e) : td_At f n g e := by
  obtain ⟨h1, h2, h3, h4, h5⟩ := h
  obtain ⟨e1, e2, e3, e4⟩ := he
  refine ⟨e2, fun i ha => ?_, fun ha => h5 e e1 ha (e4 ha)⟩
  by_cases z : i < p
  · exact h4 i z
  · have := e3 i (by omega) ha; omega
theorem td_gap {f : Nat → Nat} {n g p e : Nat} (hi : td_inc f n) (h : td_Be f n g p) (he : td_En f n p e) : ∀ i, i < n → ((f i < 10 ∧ td_ga f i = g) ↔ (p ≤ i ∧ i < e)) := by
  obtain ⟨h1, h2, h3, h4, h5⟩ := h
  obtain ⟨e1, e2, e3, e4⟩ := he
  intro i hin
  constructor
  · rintro ⟨ha, hb⟩
    refine ⟨?_, ?_⟩
    · rcases Nat.lt_or_ge i p with z | z
      · exact absurd hb (h2 i z ha)
      · exact z
    · rcases Nat.lt_or_ge i e with z | z
      · exact z
      · have h6 := e4 (by omega)
        have h7 : i ≠ e := fun w => by rw [w] at ha; omega
        have := td_ga_ge hi h6 i (by omega) (by omega)
        have := h5 e e1 (by omega) h6
        omega
  · rintro ⟨ha, hb⟩
    refine ⟨e3 i ha hb, ?_⟩
    rw [td_ga_new i ha (fun j h6 h7 => e3 j h6 (by omega))]
    exact h3 (by omega) (e3 p (Nat.le_refl _) (by omega))
theorem td_plK {f : Nat → Nat} {n g p : Nat} (hi : td_inc f n) (h : td_At f n g p) (hk : f p = 10 + g) : ∀ i, i < n → f i = 10 + g → i = p := by
  obtain ⟨h1, h2, h3⟩ := h
  intro i ha hb
  rcases Nat.lt_trichotomy i p with z | z | z
  · have := h2 i z; omega
  · exact z
  · have := hi p i z ha (by omega); omega
theorem td_plD {f : Nat → Nat} {n g p : Nat} (hi : td_inc f n) (h : td_At f n g p) (hk : ¬ (p < n ∧ f p = 10 + g)) : ∀ i, i < n → f i ≠ 10 + g := by
  obtain ⟨h1, h2, h3⟩ := h
  intro i ha hb
  rcases Nat.lt_trichotomy i p with z | z | z
  · have := h2 i z; omega
  · subst z; exact hk ⟨ha, hb⟩
  · have := h3 (by omega)
    have := hi p i z ha (by omega)
    have h5 : f p ≠ 10 + g := fun e => hk ⟨by omega, e⟩
    omega
end
section
/-! the relation: Y's codes are the ghosts; X's are td_cx of them -/
def td_dX (R : List Nat) (a : Nat → Int32) : Prop := ∀ i, i < R.length → i < 41 → a i = nI (td_cx (td_gt R i))
def td_dY (R : List Nat) (a : Nat → Int32) : Prop := ∀ i, i < R.length → a i = nI (td_gt R i)
def td_dW (R : List Nat) (a : Nat → Int32) : Prop := ∀ i, i < R.length → a i = nI (td_cx (td_gt R i))
def td_SX (inn : Nat → Nat) (g : Nat → List Nat) (si sn so : Nat → Int32) : Prop := (∀ s i, s < 4 → i < (g s).length → si (s * 40 + i) = nI (td_cx (td_gt (g s) i))) ∧ (∀ s, s < 4 → sn s = nI (inn s)) ∧ (∀ s, s < 4 → so s = nI (g s).length)
def td_SY (inn : Nat → Nat) (g : Nat → List Nat) (si so sn : Nat → Int32) : Prop := (∀ s i, s < 4 → i < (g s).length → si (s * 40 + i) = nI (td_gt (g s) i)) ∧ (∀ s, s < 4 → sn s = nI (inn s)) ∧ (∀ s, s < 4 → so s = nI (g s).length)
def td_SG (inn : Nat → Nat) (g : Nat → List Nat) : Prop := ∀ s, s < 4 → inn s ≤ 40 ∧ (g s).length ≤ 40 ∧ td_wf (inn s) (g s)
def td_K (wi us : Nat) (wk dc : List Nat) : Prop := us ≤ wi ∧ wi ≤ 40 ∧ wk.length ≤ 40 ∧ td_wf us wk ∧ dc.length ≤ 40 ∧ ∀ i, i < dc.length → td_gt dc i < 10
def td_Rel (u : SX) (v : SY) : Prop := ∃ (wi us : Nat) (wk dc : List Nat) (inn : Nat → Nat) (g : Nat → List Nat), td_K wi us wk dc ∧ td_SG inn g ∧
  (match u with
  | (f_workIn, f_workOut, f_workUsed, f_documentLength, f_draftLength, f_runCount, a_slotItems, a_slotIn, a_slotOut, a_workItems, a_document, a_draft, a_draftDocument, a_runKinds, a_runLengths) => f_workIn = nI wi ∧ f_workOut = nI wk.length ∧ f_workUsed = nI us ∧ f_documentLength = nI dc.length ∧ td_SX inn g a_slotItems a_slotIn a_slotOut ∧ td_dW wk a_workItems ∧ td_dY dc a_document) ∧
  (match v with
  | (y_workIn, y_used, y_items, y_length, y_size, y_printed, b_out, b_outLen, b_inLen, b_work, b_doc, b_result, b_print) => y_workIn = nI wi ∧ y_used = nI us ∧ y_items = nI wk.length ∧ y_length = nI dc.length ∧ td_SY inn g b_out b_outLen b_inLen ∧ td_dY wk b_work ∧ td_dY dc b_doc)
def i_Rel (k : Nat) (u : SX) (v : SY) : Prop := td_Rel u v
theorem i_up {k : Nat} {u : SX} {v : SY} (h : i_Rel k u v) : i_Rel (k + 5) u v := h
section
variable {f_workIn f_workOut f_workUsed f_documentLength f_draftLength f_runCount : Int32} {a_slotItems a_slotIn a_slotOut a_workItems a_document a_draft a_draftDocument a_runKinds a_runLengths : Nat → Int32}
variable {y_workIn y_used y_items y_length y_size y_printed : Int32} {b_out b_outLen b_inLen b_work b_doc b_result b_print : Nat → Int32}
variable {wi us : Nat} {wk dc : List Nat} {inn : Nat → Nat} {g : Nat → List Nat}
theorem td_mk {k : Nat} (hK : td_K wi us wk dc) (hG : td_SG inn g) (hX : td_SX inn g a_slotItems a_slotIn a_slotOut) (hw : td_dW wk a_workItems) (hd : td_dY dc a_document) (hY : td_SY inn g b_out b_outLen b_inLen) (hw2 : td_dY wk b_work) (hd2 : td_dY dc b_doc) : i_Rel k (nI wi, nI wk.length, nI us, nI dc.length, f_draftLength, f_runCount, a_slotItems, a_slotIn, a_slotOut, a_workItems, a_document, a_draft, a_draftDocument, a_runKinds, a_runLengths) (nI wi, nI us, nI wk.length, nI dc.length, y_size, y_printed, b_out, b_outLen, b_inLen, b_work, b_doc, b_result, b_print) :=
  ⟨wi, us, wk, dc, inn, g, hK, hG, ⟨rfl, rfl, rfl, rfl, hX, hw, hd⟩, rfl, rfl, rfl, rfl, hY, hw2, hd2⟩
end
theorem td_dY0 (a : Nat → Int32) : td_dY [] a := fun i h => absurd h (Nat.not_lt_zero _)
theorem td_dW0 (a : Nat → Int32) : td_dW [] a := fun i h => absurd h (Nat.not_lt_zero _)
theorem td_dX0 (a : Nat → Int32) : td_dX [] a := fun i h => absurd h (Nat.not_lt_zero _)
theorem td_dYp {R : List Nat} {a : Nat → Int32} {t : Nat} (h : td_dY R a) : td_dY (R ++ [t]) (upd a R.length (nI t)) := by
  intro i hi
  rw [td_len1] at hi
  rw [td_gt_app1 hi]
  by_cases z : i < R.length
  · rw [if_pos z, pk_un (by omega)]; exact h i z
  · rw [if_neg z, show i = R.length from by omega, pk_us]
theorem td_dWp {R : List Nat} {a : Nat → Int32} {t : Nat} (h : td_dW R a) : td_dW (R ++ [t]) (upd a R.length (nI (td_cx t))) := by
  intro i hi
  rw [td_len1] at hi
  rw [td_gt_app1 hi]
  by_cases z : i < R.length
  · rw [if_pos z, pk_un (by omega)]; exact h i z
  · rw [if_neg z, show i = R.length from by omega, pk_us]
theorem td_dXp {R : List Nat} {a : Nat → Int32} {t : Nat} (h : td_dX R a) : td_dX (R ++ [t]) (upd a R.length (nI (td_cx t))) := by
  intro i hi h4
  rw [td_len1] at hi
  rw [td_gt_app1 hi]
  by_cases z : i < R.length
  · rw [if_pos z, pk_un (by omega)]; exact h i z h4
  · rw [if_neg z, show i = R.length from by omega, pk_us]
theorem td_dXf {R : List Nat} {a : Nat → Int32} {t : Nat} (h : td_dX R a) (hR : 41 ≤ R.length) : td_dX (R ++ [t]) a := by
  intro i hi h4
  rw [td_gt_lo (by omega)]
  exact h i (by omega) h4
theorem i_vc0 : wpX_init (fun u => wpY_init (fun v => i_Rel 0 u v)) := by
  refine ⟨0, 0, [], [], fun _ => 0, fun _ => [], ⟨by omega, by omega, Nat.zero_le _, td_wf0 _, Nat.zero_le _, fun i h => absurd h (Nat.not_lt_zero _)⟩, fun s _ => ⟨Nat.zero_le _, Nat.zero_le _, td_wf0 _⟩, ⟨rfl, rfl, rfl, rfl, ⟨fun s i _ h => absurd h (Nat.not_lt_zero _), fun _ _ => rfl, fun _ _ => rfl⟩, td_dW0 _, td_dY0 _⟩, rfl, rfl, rfl, rfl, ⟨fun s i _ h => absurd h (Nat.not_lt_zero _), fun _ _ => rfl, fun _ _ => rfl⟩, td_dY0 _, td_dY0 _⟩
theorem td_ge1 {x : Int32} (h : (1 : Int32) ≤ x) : ∃ k : Nat, 1 ≤ k ∧ k < 2 ^ 31 ∧ x = nI k := by
  have h1 : (1 : Int32).toInt ≤ x.toInt := Int32.le_iff_toInt_le.mp h
  have h2 : (1 : Int32).toInt = 1 := by decide
  have h3 : (0 : Int32).toInt = 0 := by decide
  obtain ⟨k, hk, rfl⟩ := nI_of (x := x) (by rw [Int32.lt_iff_toInt_lt, h3]; omega)
  rw [h2, nI_toInt hk] at h1
  exact ⟨k, by omega, hk, rfl⟩
theorem td_slot (x : Int32) : (∃ s, s < 4 ∧ x = nI s) ∨ ((∀ post : Int32 → Prop, post 0 → wpX_isSlot post x) ∧ (∀ (post : Int32 → Prop) (v : SY), post 0 → wpY_isSlot post v x)) := by
  by_cases h0 : x < 0
  · exact Or.inr ⟨fun post h => br_t h0 h, fun post v h => br_t h0 h⟩
  · obtain ⟨j, hj, rfl⟩ := nI_of h0
    by_cases h4 : j < 4
    · exact Or.inl ⟨j, h4, rfl⟩
    · exact Or.inr ⟨fun post h => br_f h0 (pk_le 4 j (fun _ => h) (fun z => absurd z h4)), fun post v h => br_f h0 (pk_lt 3 j (fun _ => h) (fun z => absurd (Nat.lt_succ_of_le z) h4))⟩
theorem td_xs1 {s : Nat} (hs : s < 4) {post : Int32 → Prop} (h : post 1) : wpX_isSlot post (nI s) :=
  br_f (nI_pos (by omega)) (pk_le 4 s (fun z => absurd z (by omega)) (fun _ => h))
theorem td_ys1 {s : Nat} (hs : s < 4) {post : Int32 → Prop} {v : SY} (h : post 1) : wpY_isSlot post v (nI s) :=
  br_f (nI_pos (by omega)) (pk_lt 3 s (fun z => absurd z (by omega)) (fun _ => h))
theorem td_10ne : ¬ (1 : Int32) = 0 := by decide
theorem i_vc_begin {k : Nat} {u : SX} {v : SY} (I : i_Rel k u v) (hk : k + 5 ≤ 2560) (v1 : Int32) : wpX_begin (fun r u' => wpY_begin (fun r' v' => r' = r ∧ i_Rel (k + 5) u' v') v v1) u v1 := by
  obtain ⟨f_workIn, f_workOut, f_workUsed, f_documentLength, f_draftLength, f_runCount, a_slotItems, a_slotIn, a_slotOut, a_workItems, a_document, a_draft, a_draftDocument, a_runKinds, a_runLengths⟩ := u
  obtain ⟨y_workIn, y_used, y_items, y_length, y_size, y_printed, b_out, b_outLen, b_inLen, b_work, b_doc, b_result, b_print⟩ := v
  by_cases h0 : v1 < 0
  · exact br_t h0 (br_t h0 ⟨rfl, I⟩)
  · by_cases h1 : v1 ≤ 40
    · obtain ⟨j, hj, rfl⟩ := nI_of2 (n := 40) (by decide) h0 h1
      obtain ⟨wi, us, wk, dc, inn, g, hK, hG, ⟨rfl, rfl, rfl, rfl, hX, hw, hd⟩, rfl, rfl, rfl, rfl, hY, hw2, hd2⟩ := I
      exact br_f h0 (br_t h1 (br_f h0 (br_t h1 ⟨rfl, td_mk (wk := []) (us := 0) ⟨Nat.zero_le _, hj, Nat.zero_le _, td_wf0 _, hK.2.2.2.2⟩ hG hX (td_dW0 _) hd hY (td_dY0 _) hd2⟩)))
    · exact br_f h0 (br_f h1 (br_f h0 (br_f h1 ⟨rfl, I⟩)))
theorem i_vc_drop {k : Nat} {u : SX} {v : SY} (I : i_Rel k u v) (hk : k + 5 ≤ 2560) (v1 : Int32) : wpX_drop (fun r u' => wpY_drop (fun r' v' => r' = r ∧ i_Rel (k + 5) u' v') v v1) u v1 := by
  obtain ⟨f_workIn, f_workOut, f_workUsed, f_documentLength, f_draftLength, f_runCount, a_slotItems, a_slotIn, a_slotOut, a_workItems, a_document, a_draft, a_draftDocument, a_runKinds, a_runLengths⟩ := u
  obtain ⟨y_workIn, y_used, y_items, y_length, y_size, y_printed, b_out, b_outLen, b_inLen, b_work, b_doc, b_result, b_print⟩ := v
  by_cases h0 : 1 ≤ v1
  · obtain ⟨j, hj, hj2, rfl⟩ := td_ge1 h0
    have I2 := I
    obtain ⟨wi, us, wk, dc, inn, g, hK, hG, ⟨rfl, rfl, rfl, rfl, hX, hw, hd⟩, rfl, rfl, rfl, rfl, hY, hw2, hd2⟩ := I
    obtain ⟨k1, k2, k3, k4, k5⟩ := hK
    refine br_t h0 (pk_le j (wi - us) (fun h => nm_r (nI_add _ _) ?_) (fun h => ?_) rfl (pk_sub k1))
    · refine br_t h0 (pk_le j (wi - us) (fun h => nm_r (nI_add _ _) ?_) (fun h => absurd h (by omega)) rfl (pk_sub k1))
      exact ⟨rfl, td_mk ⟨by omega, k2, k3, td_wfM k4 (by omega), k5⟩ hG hX hw hd hY hw2 hd2⟩
    · refine br_t h0 (pk_le j (wi - us) (fun h => absurd h (by omega)) (fun h => ?_) rfl (pk_sub k1))
      exact ⟨rfl, I2⟩
  · exact br_f h0 (br_f h0 ⟨rfl, I⟩)
theorem td_letter (x : Int32) : (∃ s, s < 10 ∧ x = nI s ∧ (∀ post : Int32 → Prop, post 1 → wpX_isLetter post x) ∧ ¬ x < 0 ∧ x ≤ 9) ∨ ((∀ post : Int32 → Prop, post 0 → wpX_isLetter post x) ∧ (x < 0 ∨ (¬ x < 0 ∧ ¬ x ≤ 9))) := by
  by_cases h0 : x < 0
  · exact Or.inr ⟨fun post h => br_t h0 h, Or.inl h0⟩
  · obtain ⟨j, hj, rfl⟩ := nI_of h0
    by_cases h4 : j < 10
    · exact Or.inl ⟨j, h4, rfl, fun post h => br_f h0 (pk_le 10 j (fun z => absurd z (by omega)) (fun _ => h)), h0, nI_le (b := 9) (by omega) (by decide)⟩
    · exact Or.inr ⟨fun post h => br_f h0 (pk_le 10 j (fun _ => h) (fun z => absurd z h4)), Or.inr ⟨h0, nI_ge (a := 9) (by omega) hj⟩⟩
theorem i_vc_add {k : Nat} {u : SX} {v : SY} (I : i_Rel k u v) (hk : k + 5 ≤ 2560) (v1 : Int32) : wpX_add (fun r u' => wpY_add (fun r' v' => r' = r ∧ i_Rel (k + 5) u' v') v v1) u v1 := by
  obtain ⟨f_workIn, f_workOut, f_workUsed, f_documentLength, f_draftLength, f_runCount, a_slotItems, a_slotIn, a_slotOut, a_workItems, a_document, a_draft, a_draftDocument, a_runKinds, a_runLengths⟩ := u
  obtain ⟨y_workIn, y_used, y_items, y_length, y_size, y_printed, b_out, b_outLen, b_inLen, b_work, b_doc, b_result, b_print⟩ := v
  unfold wpX_add
  rcases td_letter v1 with ⟨c, hc, rfl, hx, h0, h9⟩ | ⟨hx, hy⟩
  · refine hx _ (br_f td_10ne ?_)
    have I2 := I
    obtain ⟨wi, us, wk, dc, inn, g, hK, hG, ⟨rfl, rfl, rfl, rfl, hX, hw, hd⟩, rfl, rfl, rfl, rfl, hY, hw2, hd2⟩ := I
    obtain ⟨k1, k2, k3, k4, k5⟩ := hK
    refine pk_lt wk.length 40 (fun h => ⟨vp_in_nI h (by decide), nm_r (e' := upd a_workItems wk.length (nI (td_cx c))) (by rw [nI_clamp (by omega), td_100, td_cxN hc]) (nm_r (nI_1 _) ?_)⟩) (fun h => ?_)
    · refine br_f h0 (br_t h9 (pk_eq wk.length 40 (fun z => absurd z (by omega)) (fun _ => ⟨vp_in_nI h (by decide), nm_r (e' := upd b_work wk.length (nI c)) (by rw [nI_clamp (by omega)]) (nm_r (nI_1 _) ?_)⟩)))
      refine ⟨rfl, ?_⟩
      rw [← td_len1 (x := c)]
      exact td_mk ⟨k1, k2, by rw [td_len1]; omega, td_wfN k4 hc, k5⟩ hG hX (td_dWp hw) hd hY (td_dYp hw2) hd2
    · exact br_f h0 (br_t h9 (pk_eq wk.length 40 (fun _ => ⟨rfl, I2⟩) (fun z => absurd (by omega) z)))
  · refine hx _ (br_t rfl ?_)
    rcases hy with h | ⟨h, h2⟩
    · exact br_t h ⟨rfl, I⟩
    · exact br_f h (br_f h2 ⟨rfl, I⟩)
theorem i_vc_type {k : Nat} {u : SX} {v : SY} (I : i_Rel k u v) (hk : k + 5 ≤ 2560) (v1 : Int32) : wpX_type (fun r u' => wpY_type (fun r' v' => r' = r ∧ i_Rel (k + 5) u' v') v v1) u v1 := by
  obtain ⟨f_workIn, f_workOut, f_workUsed, f_documentLength, f_draftLength, f_runCount, a_slotItems, a_slotIn, a_slotOut, a_workItems, a_document, a_draft, a_draftDocument, a_runKinds, a_runLengths⟩ := u
  obtain ⟨y_workIn, y_used, y_items, y_length, y_size, y_printed, b_out, b_outLen, b_inLen, b_work, b_doc, b_result, b_print⟩ := v
  unfold wpX_type
  rcases td_letter v1 with ⟨c, hc, rfl, hx, h0, h9⟩ | ⟨hx, hy⟩
  · refine hx _ (br_f td_10ne ?_)
    have I2 := I
    obtain ⟨wi, us, wk, dc, inn, g, hK, hG, ⟨rfl, rfl, rfl, rfl, hX, hw, hd⟩, rfl, rfl, rfl, rfl, hY, hw2, hd2⟩ := I
    obtain ⟨k1, k2, k3, k4, k5, k6⟩ := hK
    refine pk_lt dc.length 40 (fun h => ⟨vp_in_nI h (by decide), nm_r (e' := upd a_document dc.length (nI c)) (by rw [nI_clamp (by omega)]) (nm_r (nI_1 _) ?_)⟩) (fun h => ?_)
    · refine br_f h0 (br_t h9 (pk_eq dc.length 40 (fun z => absurd z (by omega)) (fun _ => ⟨vp_in_nI h (by decide), nm_r (e' := upd b_doc dc.length (nI c)) (by rw [nI_clamp (by omega)]) (nm_r (nI_1 _) ?_)⟩)))
      refine ⟨rfl, ?_⟩
      rw [← td_len1 (x := c)]
      refine td_mk ⟨k1, k2, k3, k4, by rw [td_len1]; omega, fun i hi => ?_⟩ hG hX hw (td_dYp hd) hY hw2 (td_dYp hd2)
      rw [td_len1] at hi
      rw [td_gt_app1 hi]
      split
      · exact k6 i ‹_›
      · exact hc
    · exact br_f h0 (br_t h9 (pk_eq dc.length 40 (fun _ => ⟨rfl, I2⟩) (fun z => absurd (by omega) z)))
  · refine hx _ (br_t rfl ?_)
    rcases hy with h | ⟨h, h2⟩
    · exact br_t h ⟨rfl, I⟩
    · exact br_f h (br_f h2 ⟨rfl, I⟩)
theorem i_vc_clear {k : Nat} {u : SX} {v : SY} (I : i_Rel k u v) (hk : k + 5 ≤ 2560) : wpX_clear (fun u' => wpY_clear (fun v' => i_Rel (k + 5) u' v') v) u := by
  obtain ⟨f_workIn, f_workOut, f_workUsed, f_documentLength, f_draftLength, f_runCount, a_slotItems, a_slotIn, a_slotOut, a_workItems, a_document, a_draft, a_draftDocument, a_runKinds, a_runLengths⟩ := u
  obtain ⟨y_workIn, y_used, y_items, y_length, y_size, y_printed, b_out, b_outLen, b_inLen, b_work, b_doc, b_result, b_print⟩ := v
  obtain ⟨wi, us, wk, dc, inn, g, hK, hG, ⟨rfl, rfl, rfl, rfl, hX, hw, hd⟩, rfl, rfl, rfl, rfl, hY, hw2, hd2⟩ := I
  obtain ⟨k1, k2, k3, k4, k5, k6⟩ := hK
  unfold wpX_clear wpY_clear
  exact td_mk (dc := []) ⟨k1, k2, k3, k4, Nat.zero_le _, fun i h => absurd h (Nat.not_lt_zero _)⟩ hG hX hw (td_dY0 _) hY hw2 (td_dY0 _)
theorem i_vc_length {k : Nat} {u : SX} {v : SY} (I : i_Rel k u v) (hk : k + 5 ≤ 2560) : wpX_length (fun r => wpY_length (fun r' => r' = r ∧ i_Rel (k + 5) u v) v) u := by
  obtain ⟨f_workIn, f_workOut, f_workUsed, f_documentLength, f_draftLength, f_runCount, a_slotItems, a_slotIn, a_slotOut, a_workItems, a_document, a_draft, a_draftDocument, a_runKinds, a_runLengths⟩ := u
  obtain ⟨y_workIn, y_used, y_items, y_length, y_size, y_printed, b_out, b_outLen, b_inLen, b_work, b_doc, b_result, b_print⟩ := v
  have I2 := I
  obtain ⟨wi, us, wk, dc, inn, g, hK, hG, ⟨rfl, rfl, rfl, rfl, hX, hw, hd⟩, rfl, rfl, rfl, rfl, hY, hw2, hd2⟩ := I
  exact ⟨rfl, I2⟩
theorem i_vc_at {k : Nat} {u : SX} {v : SY} (I : i_Rel k u v) (hk : k + 5 ≤ 2560) (v1 : Int32) : wpX_at (fun r => wpY_at (fun r' => r' = r ∧ i_Rel (k + 5) u v) v v1) u v1 := by
  obtain ⟨f_workIn, f_workOut, f_workUsed, f_documentLength, f_draftLength, f_runCount, a_slotItems, a_slotIn, a_slotOut, a_workItems, a_document, a_draft, a_draftDocument, a_runKinds, a_runLengths⟩ := u
  obtain ⟨y_workIn, y_used, y_items, y_length, y_size, y_printed, b_out, b_outLen, b_inLen, b_work, b_doc, b_result, b_print⟩ := v
  have I2 := I
  obtain ⟨wi, us, wk, dc, inn, g, hK, hG, ⟨rfl, rfl, rfl, rfl, hX, hw, hd⟩, rfl, rfl, rfl, rfl, hY, hw2, hd2⟩ := I
  obtain ⟨k1, k2, k3, k4, k5, k6⟩ := hK
  by_cases h0 : v1 < 0
  · exact br_t h0 (br_t h0 ⟨rfl, I2⟩)
  · obtain ⟨j, hj, rfl⟩ := nI_of h0
    refine br_f h0 (pk_lt j dc.length (fun h => ⟨vp_in_nI (by omega) (by decide), br_f h0 (pk_lt j dc.length (fun h => ⟨vp_in_nI (by omega) (by decide), ?_, I2⟩) (fun z => absurd h (by omega)))⟩) (fun h => br_f h0 (pk_lt j dc.length (fun z => absurd z (by omega)) (fun _ => ⟨rfl, I2⟩))))
    rw [nI_clamp hj, hd j h, hd2 j h]
theorem i_vc_inLength {k : Nat} {u : SX} {v : SY} (I : i_Rel k u v) (hk : k + 5 ≤ 2560) (v1 : Int32) : wpX_inLength (fun r => wpY_inLength (fun r' => r' = r ∧ i_Rel (k + 5) u v) v v1) u v1 := by
  obtain ⟨f_workIn, f_workOut, f_workUsed, f_documentLength, f_draftLength, f_runCount, a_slotItems, a_slotIn, a_slotOut, a_workItems, a_document, a_draft, a_draftDocument, a_runKinds, a_runLengths⟩ := u
  obtain ⟨y_workIn, y_used, y_items, y_length, y_size, y_printed, b_out, b_outLen, b_inLen, b_work, b_doc, b_result, b_print⟩ := v
  have I2 := I
  obtain ⟨wi, us, wk, dc, inn, g, hK, hG, ⟨rfl, rfl, rfl, rfl, hX, hw, hd⟩, rfl, rfl, rfl, rfl, hY, hw2, hd2⟩ := I
  unfold wpX_inLength wpY_inLength
  rcases td_slot v1 with ⟨s, hs, rfl⟩ | ⟨hx, hy⟩
  · have hi : vp_in (nI s) 4 := vp_in_nI hs (by decide)
    refine td_xs1 hs (br_f td_10ne ⟨hi, td_ys1 hs (br_f td_10ne ⟨hi, ?_, I2⟩)⟩)
    rw [nI_clamp (by omega), hX.2.1 s hs, hY.2.1 s hs]
  · exact hx _ (br_t rfl (hy _ _ (br_t rfl ⟨rfl, I2⟩)))
theorem i_vc_outLength {k : Nat} {u : SX} {v : SY} (I : i_Rel k u v) (hk : k + 5 ≤ 2560) (v1 : Int32) : wpX_outLength (fun r => wpY_outLength (fun r' => r' = r ∧ i_Rel (k + 5) u v) v v1) u v1 := by
  obtain ⟨f_workIn, f_workOut, f_workUsed, f_documentLength, f_draftLength, f_runCount, a_slotItems, a_slotIn, a_slotOut, a_workItems, a_document, a_draft, a_draftDocument, a_runKinds, a_runLengths⟩ := u
  obtain ⟨y_workIn, y_used, y_items, y_length, y_size, y_printed, b_out, b_outLen, b_inLen, b_work, b_doc, b_result, b_print⟩ := v
  have I2 := I
  obtain ⟨wi, us, wk, dc, inn, g, hK, hG, ⟨rfl, rfl, rfl, rfl, hX, hw, hd⟩, rfl, rfl, rfl, rfl, hY, hw2, hd2⟩ := I
  unfold wpX_outLength wpY_outLength
  rcases td_slot v1 with ⟨s, hs, rfl⟩ | ⟨hx, hy⟩
  · have hi : vp_in (nI s) 4 := vp_in_nI hs (by decide)
    refine td_xs1 hs (br_f td_10ne ⟨hi, td_ys1 hs (br_f td_10ne ⟨hi, ?_, I2⟩)⟩)
    rw [nI_clamp (by omega), hX.2.2 s hs, hY.2.2 s hs]
  · exact hx _ (br_t rfl (hy _ _ (br_t rfl ⟨rfl, I2⟩)))
end
section
theorem td_rg_end (c : Nat → Nat) : ∀ d i, td_rg c i (d + 1) = td_rg c i d ++ [c (i + d)] := by
  intro d
  induction d with
  | zero => intro i; rfl
  | succ d ih =>
    intro i
    show c i :: td_rg c (i + 1) (d + 1) = (c i :: td_rg c (i + 1) d) ++ [c (i + (d + 1))]
    rw [ih, show i + 1 + d = i + (d + 1) from by omega]
    rfl
theorem td_take {L : List Nat} {i : Nat} (h : i < L.length) : L.take (i + 1) = L.take i ++ [td_gt L i] := by
  rw [List.take_succ_eq_append_getElem h]
  unfold td_gt
  rw [List.getD_eq_getElem?_getD, List.getElem?_eq_getElem h]
  rfl
section
variable {f_workIn f_workOut f_workUsed f_documentLength f_draftLength f_runCount : Int32} {a_slotItems a_slotIn a_slotOut a_workItems a_document a_draft a_draftDocument a_runKinds a_runLengths : Nat → Int32}
variable {y_workIn y_used y_items y_length y_size y_printed : Int32} {b_out b_outLen b_inLen b_work b_doc b_result b_print : Nat → Int32}
/-! keep -/
theorem td_xkeep {post : Int32 → SX → Prop} {us k : Nat} {wk : List Nat} (hl : wk.length + k ≤ 40) (hus : us + k ≤ 40) (hp : ∀ wa, td_dW (wk ++ td_rg (fun p => 10 + p) us k) wa → post (nI (wk.length + k)) (f_workIn, nI (wk.length + k), nI (us + k), f_documentLength, f_draftLength, f_runCount, a_slotItems, a_slotIn, a_slotOut, wa, a_document, a_draft, a_draftDocument, a_runKinds, a_runLengths)) : ∀ n i wa, i ≤ k → k - i < n → td_dW (wk ++ td_rg (fun p => 10 + p) us i) wa → wX_keep_39 post (nI k) f_workIn (nI wk.length) (nI us) f_documentLength f_draftLength f_runCount n (nI i) a_slotItems a_slotIn a_slotOut wa a_document a_draft a_draftDocument a_runKinds a_runLengths := by
  intro n
  induction n with
  | zero => intro i wa _ h; exact absurd h (Nat.not_lt_zero _)
  | succ n ih =>
    intro i wa hi hn hw
    refine pk_le k i (fun h => nm_r (nI_add _ _) (nm_r (nI_add _ _) ?_)) (fun h => ?_)
    · have : i = k := by omega
      subst this
      exact hp wa hw
    · refine ⟨pk_in (wk.length + i) 40 (by omega) (nI_add _ _), nm_r (e' := upd wa (wk.length + i) (nI (td_cx (10 + (us + i))))) (by rw [nI_add, nI_add, nI_clamp (by omega), td_cx10]) (nm_r (nI_1 _) (ih (i + 1) _ (by omega) (by omega) ?_))⟩
      have := td_dWp (t := 10 + (us + i)) hw
      rw [List.length_append, td_rg_len] at this
      rw [td_rg_end, ← List.append_assoc]
      exact this
theorem td_ykeep {post : Int32 → SY → Prop} {us k : Nat} {wk : List Nat} (hl : wk.length + k ≤ 40) (hus : us + k ≤ 40) (hp : ∀ wa, td_dY (wk ++ td_rg (fun p => 10 + p) us k) wa → post (nI (wk.length + k)) (y_workIn, nI (us + k), nI (wk.length + k), y_length, y_size, y_printed, b_out, b_outLen, b_inLen, wa, b_doc, b_result, b_print)) : ∀ n i wa, i ≤ k → k - i < n → td_dY (wk ++ td_rg (fun p => 10 + p) us i) wa → wY_keep_39 post (nI k) y_workIn y_length y_size y_printed n (nI i) (nI (us + i)) (nI (wk.length + i)) b_out b_outLen b_inLen wa b_doc b_result b_print := by
  intro n
  induction n with
  | zero => intro i wa _ h; exact absurd h (Nat.not_lt_zero _)
  | succ n ih =>
    intro i wa hi hn hw
    refine pk_le k i (fun h => ?_) (fun h => ?_)
    · have : i = k := by omega
      subst this
      exact hp wa hw
    · refine ⟨vp_in_nI (by omega) (by decide), nm_r (e' := upd wa (wk.length + i) (nI (10 + (us + i)))) (by rw [nI_clamp (by omega), td_10]) (nm_r (nI_1 _) (nm_r (nI_1 _) (nm_r (nI_1 _) (ih (i + 1) _ (by omega) (by omega) ?_))))⟩
      have := td_dYp (t := 10 + (us + i)) hw
      rw [List.length_append, td_rg_len] at this
      rw [td_rg_end, ← List.append_assoc]
      exact this
end
theorem i_vc_keep {k : Nat} {u : SX} {v : SY} (I : i_Rel k u v) (hk : k + 5 ≤ 2560) (v1 : Int32) : wpX_keep (fun r u' => wpY_keep (fun r' v' => r' = r ∧ i_Rel (k + 5) u' v') v v1) u v1 := by
  obtain ⟨f_workIn, f_workOut, f_workUsed, f_documentLength, f_draftLength, f_runCount, a_slotItems, a_slotIn, a_slotOut, a_workItems, a_document, a_draft, a_draftDocument, a_runKinds, a_runLengths⟩ := u
  obtain ⟨y_workIn, y_used, y_items, y_length, y_size, y_printed, b_out, b_outLen, b_inLen, b_work, b_doc, b_result, b_print⟩ := v
  by_cases h0 : 1 ≤ v1
  · obtain ⟨j, hj, hj2, rfl⟩ := td_ge1 h0
    have I2 := I
    obtain ⟨wi, us, wk, dc, inn, g, hK, hG, ⟨rfl, rfl, rfl, rfl, hX, hw, hd⟩, rfl, rfl, rfl, rfl, hY, hw2, hd2⟩ := I
    obtain ⟨k1, k2, k3, k4, k5⟩ := hK
    refine br_t h0 (pk_le j (wi - us) (fun h => ?_) (fun h => ?_) rfl (pk_sub k1))
    · refine pk_le j (40 - wk.length) (fun h2 => ⟨j + 1, ?_⟩) (fun h2 => ?_) rfl (pk_sub (a := 40) k3)
      · refine td_xkeep (by omega) (by omega) (fun wa hwa => ?_) (j + 1) 0 _ (Nat.zero_le _) (by omega) (by rw [show td_rg (fun p => 10 + p) us 0 = [] from rfl, List.append_nil]; exact hw)
        refine br_t h0 (pk_le j (wi - us) (fun _ => ?_) (fun h => absurd h (by omega)) rfl (pk_sub k1))
        refine pk_le (wk.length + j) 40 (fun h2 => ⟨j + 1, ?_⟩) (fun h2 => absurd h2 (by omega)) (nI_add _ _)
        refine td_ykeep (by omega) (by omega) (fun wb hwb => ?_) (j + 1) 0 _ (Nat.zero_le _) (by omega) (by rw [show td_rg (fun p => 10 + p) us 0 = [] from rfl, List.append_nil]; exact hw2)
        refine ⟨rfl, ?_⟩
        have hl : (wk ++ td_rg (fun p => 10 + p) us j).length = wk.length + j := by rw [List.length_append, td_rg_len]
        rw [← hl]
        exact td_mk ⟨by omega, k2, by omega, td_rg_wfK j wk us k4, k5⟩ hG hX hwa hd hY hwb hd2
      · refine br_t h0 (pk_le j (wi - us) (fun _ => ?_) (fun h => absurd h (by omega)) rfl (pk_sub k1))
        refine pk_le (wk.length + j) 40 (fun h2 => absurd h2 (by omega)) (fun h2 => ⟨rfl, I2⟩) (nI_add _ _)
    · refine br_t h0 (pk_le j (wi - us) (fun h => absurd h (by omega)) (fun h => ?_) rfl (pk_sub k1))
      exact ⟨rfl, I2⟩
  · exact br_f h0 (br_f h0 ⟨rfl, I⟩)
/-! cells of the slots -/
theorem td_xn1 {t : Nat} (h : t < 10) {post : Int32 → Prop} (hp : post 1) : wpX_isNew post (nI (td_cx t)) := by
  rw [td_cxN h]
  exact pk_lt (100 + t) 100 (fun z => absurd z (by omega)) (fun _ => hp)
theorem td_xn0 {t : Nat} (h : 10 ≤ t) (h2 : t < 60) {post : Int32 → Prop} (hp : post 0) : wpX_isNew post (nI (td_cx t)) := by
  rw [td_cxK h]
  exact pk_lt (t - 10) 100 (fun _ => hp) (fun z => absurd z (by omega))
section
variable {inn : Nat → Nat} {g : Nat → List Nat} {si sn so : Nat → Int32} {s i : Nat}
theorem td_cI (hG : td_SG inn g) (hs : s < 4) (hi : i < (g s).length) : vp_in (nI s * 40 + nI i) 160 :=
  pk_in (s * 40 + i) 160 (by have := (hG s hs).2.1; omega) (td_ix _ _)
theorem td_cX (hX : td_SX inn g si sn so) (hG : td_SG inn g) (hs : s < 4) (hi : i < (g s).length) : si (nI s * 40 + nI i).toNatClampNeg = nI (td_cx (td_gt (g s) i)) := by
  rw [td_ix, nI_clamp (by have := (hG s hs).2.1; omega)]
  exact hX.1 s i hs hi
theorem td_cY (hY : td_SY inn g si so sn) (hG : td_SG inn g) (hs : s < 4) (hi : i < (g s).length) : si (nI s * 40 + nI i).toNatClampNeg = nI (td_gt (g s) i) := by
  rw [td_ix, nI_clamp (by have := (hG s hs).2.1; omega)]
  exact hY.1 s i hs hi
theorem td_oX (hX : td_SX inn g si sn so) (hs : s < 4) : so (nI s).toNatClampNeg = nI (g s).length := by
  rw [nI_clamp (by omega)]; exact hX.2.2 s hs
theorem td_oY (hY : td_SY inn g si so sn) (hs : s < 4) : so (nI s).toNatClampNeg = nI (g s).length := by
  rw [nI_clamp (by omega)]; exact hY.2.2 s hs
theorem td_nX (hX : td_SX inn g si sn so) (hs : s < 4) : sn (nI s).toNatClampNeg = nI (inn s) := by
  rw [nI_clamp (by omega)]; exact hX.2.1 s hs
theorem td_nY (hY : td_SY inn g si so sn) (hs : s < 4) : sn (nI s).toNatClampNeg = nI (inn s) := by
  rw [nI_clamp (by omega)]; exact hY.2.1 s hs
theorem td_g60 (hG : td_SG inn g) (hs : s < 4) (hi : i < (g s).length) : td_gt (g s) i < 50 := by
  have h1 := (hG s hs).2.2.1 i hi
  have h2 := (hG s hs).1
  omega
theorem td_s4 (hs : s < 4) : vp_in (nI s) 4 := vp_in_nI hs (by decide)
end
def td_uN (f : Nat → Nat) (to m : Nat) : Nat → Nat := fun s => if s = to then m else f s
def td_uL (g : Nat → List Nat) (to : Nat) (R : List Nat) : Nat → List Nat := fun s => if s = to then R else g s
theorem td_uN_s {f : Nat → Nat} {to m : Nat} : td_uN f to m to = m := if_pos rfl
theorem td_uN_n {f : Nat → Nat} {to m s : Nat} (h : s ≠ to) : td_uN f to m s = f s := if_neg h
theorem td_uL_s {g : Nat → List Nat} {to : Nat} {R : List Nat} : td_uL g to R to = R := if_pos rfl
theorem td_uL_n {g : Nat → List Nat} {to s : Nat} {R : List Nat} (h : s ≠ to) : td_uL g to R s = g s := if_neg h
theorem td_SGu {inn : Nat → Nat} {g : Nat → List Nat} {to m : Nat} {R : List Nat} (hG : td_SG inn g) (hm : m ≤ 40) (hR : R.length ≤ 40) (hw : td_wf m R) : td_SG (td_uN inn to m) (td_uL g to R) := by
  intro s hs
  by_cases z : s = to
  · subst z; rw [td_uN_s, td_uL_s]; exact ⟨hm, hR, hw⟩
  · rw [td_uN_n z, td_uL_n z]; exact hG s hs
section
variable {f_workIn f_workOut f_workUsed f_documentLength f_draftLength f_runCount : Int32} {a_slotItems a_slotIn a_slotOut a_workItems a_document a_draft a_draftDocument a_runKinds a_runLengths : Nat → Int32}
variable {y_workIn y_used y_items y_length y_size y_printed : Int32} {b_out b_outLen b_inLen b_work b_doc b_result b_print : Nat → Int32}
variable {inn : Nat → Nat} {g : Nat → List Nat}
/-! added, same -/
theorem td_added {s : Nat} (hs : s < 4) (hG : td_SG inn g) (hX : td_SX inn g a_slotItems a_slotIn a_slotOut) (hY : td_SY inn g b_out b_outLen b_inLen) (x : Int32) : ∀ n i q, i ≤ (g s).length → (g s).length - i < n → ∃ r, (∀ post : Int32 → Prop, post r → wX_added_14 post (nI s) x f_workIn f_workOut f_workUsed f_documentLength f_draftLength f_runCount a_slotItems a_slotIn a_slotOut a_workItems a_document a_draft a_draftDocument a_runKinds a_runLengths n (nI q) (nI i)) ∧ (∀ post : Int32 → Prop, post r → wY_added_15 post (nI s) x y_workIn y_used y_items y_length y_size y_printed b_out b_outLen b_inLen b_work b_doc b_result b_print n (nI q) (nI i)) := by
  have hL := (hG s hs).2.1
  intro n
  induction n with
  | zero => intro i q _ h; exact absurd h (Nat.not_lt_zero _)
  | succ n ih =>
    intro i q hi hn
    by_cases h : (g s).length ≤ i
    · exact ⟨-4, fun post hp => ⟨td_s4 hs, pk_le (g s).length i (fun _ => hp) (fun z => absurd h (by omega)) (td_oX hX hs)⟩, fun post hp => ⟨td_s4 hs, pk_le (g s).length i (fun _ => hp) (fun z => absurd h (by omega)) (td_oY hY hs)⟩⟩
    · have hi2 : i < (g s).length := by omega
      have h60 := td_g60 hG hs hi2
      by_cases h10 : td_gt (g s) i < 10
      · by_cases hq : nI q = x
        · refine ⟨nI (td_gt (g s) i), fun post hp => ⟨td_s4 hs, pk_le (g s).length i (fun z => absurd z h) (fun _ => ⟨td_cI hG hs hi2, nm_r (td_cX hX hG hs hi2) (td_xn1 h10 (br_f td_10ne (br_t hq ?_)))⟩) (td_oX hX hs)⟩, fun post hp => ⟨td_s4 hs, pk_le (g s).length i (fun z => absurd z h) (fun _ => ⟨td_cI hG hs hi2, ?_⟩) (td_oY hY hs)⟩⟩
          · rw [td_cxN h10, td_s100 (by omega), show 100 + td_gt (g s) i - 100 = td_gt (g s) i from by omega]
            exact hp
          · rw [td_cY hY hG hs hi2]
            exact pk_le 10 (td_gt (g s) i) (fun z => absurd z (by omega)) (fun _ => br_t hq ⟨td_cI hG hs hi2, hp⟩)
        · obtain ⟨r, r1, r2⟩ := ih (i + 1) (q + 1) (by omega) (by omega)
          refine ⟨r, fun post hp => ⟨td_s4 hs, pk_le (g s).length i (fun z => absurd z h) (fun _ => ⟨td_cI hG hs hi2, nm_r (td_cX hX hG hs hi2) (td_xn1 h10 (br_f td_10ne (br_f hq (nm_r (nI_1 _) (nm_r (nI_1 _) (r1 post hp))))))⟩) (td_oX hX hs)⟩, fun post hp => ⟨td_s4 hs, pk_le (g s).length i (fun z => absurd z h) (fun _ => ⟨td_cI hG hs hi2, ?_⟩) (td_oY hY hs)⟩⟩
          rw [td_cY hY hG hs hi2]
          exact pk_le 10 (td_gt (g s) i) (fun z => absurd z (by omega)) (fun _ => br_f hq (nm_r (nI_1 _) (nm_r (nI_1 _) (r2 post hp))))
      · obtain ⟨r, r1, r2⟩ := ih (i + 1) q (by omega) (by omega)
        refine ⟨r, fun post hp => ⟨td_s4 hs, pk_le (g s).length i (fun z => absurd z h) (fun _ => ⟨td_cI hG hs hi2, nm_r (td_cX hX hG hs hi2) (td_xn0 (by omega) (by omega) (br_t rfl (nm_r (nI_1 _) (r1 post hp))))⟩) (td_oX hX hs)⟩, fun post hp => ⟨td_s4 hs, pk_le (g s).length i (fun z => absurd z h) (fun _ => ⟨td_cI hG hs hi2, ?_⟩) (td_oY hY hs)⟩⟩
        rw [td_cY hY hG hs hi2]
        exact pk_le 10 (td_gt (g s) i) (fun _ => nm_r (nI_1 _) (r2 post hp)) (fun z => absurd z (by omega))
theorem td_same {a b : Nat} (ha : a < 4) (hb : b < 4) (hG : td_SG inn g) (hX : td_SX inn g a_slotItems a_slotIn a_slotOut) (hY : td_SY inn g b_out b_outLen b_inLen) (hab : (g a).length = (g b).length) : ∀ n i, i ≤ (g a).length → (g a).length - i < n → ∃ r, (∀ post : Int32 → Prop, post r → wX_same_50 post (nI a) (nI b) f_workIn f_workOut f_workUsed f_documentLength f_draftLength f_runCount a_slotItems a_slotIn a_slotOut a_workItems a_document a_draft a_draftDocument a_runKinds a_runLengths n (nI i)) ∧ (∀ post : Int32 → Prop, post r → wY_same_52 post (nI a) (nI b) y_workIn y_used y_items y_length y_size y_printed b_out b_outLen b_inLen b_work b_doc b_result b_print n (nI i)) := by
  have hL := (hG a ha).2.1
  intro n
  induction n with
  | zero => intro i _ h; exact absurd h (Nat.not_lt_zero _)
  | succ n ih =>
    intro i hi hn
    by_cases h : (g a).length ≤ i
    · exact ⟨1, fun post hp => ⟨td_s4 ha, pk_le (g a).length i (fun _ => hp) (fun z => absurd h (by omega)) (td_oX hX ha)⟩, fun post hp => ⟨td_s4 ha, pk_le (g a).length i (fun _ => hp) (fun z => absurd h (by omega)) (td_oY hY ha)⟩⟩
    · have hi2 : i < (g a).length := by omega
      have hi3 : i < (g b).length := by omega
      have h60 := td_g60 hG ha hi2
      have h61 := td_g60 hG hb hi3
      have c1 := td_cx_lt (t := td_gt (g a) i) (by omega)
      have c2 := td_cx_lt (t := td_gt (g b) i) (by omega)
      by_cases he : td_gt (g a) i = td_gt (g b) i
      · obtain ⟨r, r1, r2⟩ := ih (i + 1) (by omega) (by omega)
        refine ⟨r, fun post hp => ⟨td_s4 ha, pk_le (g a).length i (fun z => absurd z h) (fun _ => ⟨td_cI hG ha hi2, td_cI hG hb hi3, pk_eq (td_cx (td_gt (g a) i)) (td_cx (td_gt (g b) i)) (fun _ => nm_r (nI_1 _) (r1 post hp)) (fun z => absurd (congrArg td_cx he) z) (td_cX hX hG ha hi2) (td_cX hX hG hb hi3)⟩) (td_oX hX ha)⟩, fun post hp => ⟨td_s4 ha, pk_le (g a).length i (fun z => absurd z h) (fun _ => ⟨td_cI hG ha hi2, td_cI hG hb hi3, pk_eq (td_gt (g a) i) (td_gt (g b) i) (fun _ => nm_r (nI_1 _) (r2 post hp)) (fun z => absurd he z) (td_cY hY hG ha hi2) (td_cY hY hG hb hi3)⟩) (td_oY hY ha)⟩⟩
      · refine ⟨0, fun post hp => ⟨td_s4 ha, pk_le (g a).length i (fun z => absurd z h) (fun _ => ⟨td_cI hG ha hi2, td_cI hG hb hi3, pk_eq (td_cx (td_gt (g a) i)) (td_cx (td_gt (g b) i)) (fun z => absurd ((td_cx_inj (by omega) (by omega)).mp z) he) (fun _ => hp) (td_cX hX hG ha hi2) (td_cX hX hG hb hi3)⟩) (td_oX hX ha)⟩, fun post hp => ⟨td_s4 ha, pk_le (g a).length i (fun z => absurd z h) (fun _ => ⟨td_cI hG ha hi2, td_cI hG hb hi3, pk_eq (td_gt (g a) i) (td_gt (g b) i) (fun z => absurd z he) (fun _ => hp) (td_cY hY hG ha hi2) (td_cY hY hG hb hi3)⟩) (td_oY hY ha)⟩⟩
end
theorem i_vc_added {k : Nat} {u : SX} {v : SY} (I : i_Rel k u v) (hk : k + 5 ≤ 2560) (v1 : Int32) (v2 : Int32) : wpX_added (fun r => wpY_added (fun r' => r' = r ∧ i_Rel (k + 5) u v) v v1 v2) u v1 v2 := by
  obtain ⟨f_workIn, f_workOut, f_workUsed, f_documentLength, f_draftLength, f_runCount, a_slotItems, a_slotIn, a_slotOut, a_workItems, a_document, a_draft, a_draftDocument, a_runKinds, a_runLengths⟩ := u
  obtain ⟨y_workIn, y_used, y_items, y_length, y_size, y_printed, b_out, b_outLen, b_inLen, b_work, b_doc, b_result, b_print⟩ := v
  have I2 := I
  obtain ⟨wi, us, wk, dc, inn, g, hK, hG, ⟨rfl, rfl, rfl, rfl, hX, hw, hd⟩, rfl, rfl, rfl, rfl, hY, hw2, hd2⟩ := I
  unfold wpX_added wpY_added
  rcases td_slot v1 with ⟨s, hs, rfl⟩ | ⟨hx, hy⟩
  · obtain ⟨r, r1, r2⟩ := td_added hs hG hX hY v2 ((g s).length + 1) 0 0 (Nat.zero_le _) (by omega)
    exact td_xs1 hs (br_f td_10ne ⟨_, r1 _ (td_ys1 hs (br_f td_10ne ⟨_, r2 _ ⟨rfl, I2⟩⟩))⟩)
  · exact hx _ (br_t rfl (hy _ _ (br_t rfl ⟨rfl, I2⟩)))
theorem i_vc_same {k : Nat} {u : SX} {v : SY} (I : i_Rel k u v) (hk : k + 5 ≤ 2560) (v1 : Int32) (v2 : Int32) : wpX_same (fun r => wpY_same (fun r' => r' = r ∧ i_Rel (k + 5) u v) v v1 v2) u v1 v2 := by
  obtain ⟨f_workIn, f_workOut, f_workUsed, f_documentLength, f_draftLength, f_runCount, a_slotItems, a_slotIn, a_slotOut, a_workItems, a_document, a_draft, a_draftDocument, a_runKinds, a_runLengths⟩ := u
  obtain ⟨y_workIn, y_used, y_items, y_length, y_size, y_printed, b_out, b_outLen, b_inLen, b_work, b_doc, b_result, b_print⟩ := v
  have I2 := I
  obtain ⟨wi, us, wk, dc, inn, g, hK, hG, ⟨rfl, rfl, rfl, rfl, hX, hw, hd⟩, rfl, rfl, rfl, rfl, hY, hw2, hd2⟩ := I
  unfold wpX_same wpY_same
  rcases td_slot v1 with ⟨a, ha, rfl⟩ | ⟨hx, hy⟩
  · rcases td_slot v2 with ⟨b, hb, rfl⟩ | ⟨hx, hy⟩
    · have b1 := (hG a ha).1
      have b2 := (hG b hb).1
      have b3 := (hG a ha).2.1
      have b4 := (hG b hb).2.1
      refine td_xs1 ha (br_f td_10ne (td_xs1 hb (br_f td_10ne ⟨td_s4 ha, td_s4 hb, pk_eq (inn a) (inn b) (fun e1 => ⟨td_s4 ha, td_s4 hb, pk_eq (g a).length (g b).length (fun e2 => ?_) (fun e2 => ?_) (td_oX hX ha) (td_oX hX hb)⟩) (fun e1 => ?_) (td_nX hX ha) (td_nX hX hb)⟩)))
      · obtain ⟨r, r1, r2⟩ := td_same ha hb hG hX hY e2 ((g a).length + 1) 0 (Nat.zero_le _) (by omega)
        refine ⟨_, r1 _ ?_⟩
        refine td_ys1 ha (br_f td_10ne (td_ys1 hb (br_f td_10ne ⟨td_s4 ha, td_s4 hb, pk_eq (inn a) (inn b) (fun e1 => ⟨td_s4 ha, td_s4 hb, pk_eq (g a).length (g b).length (fun e2 => ⟨_, r2 _ ⟨rfl, I2⟩⟩) (fun z => absurd e2 z) (td_oY hY ha) (td_oY hY hb)⟩) (fun z => absurd e1 z) (td_nY hY ha) (td_nY hY hb)⟩)))
      · refine td_ys1 ha (br_f td_10ne (td_ys1 hb (br_f td_10ne ⟨td_s4 ha, td_s4 hb, pk_eq (inn a) (inn b) (fun e1 => ⟨td_s4 ha, td_s4 hb, pk_eq (g a).length (g b).length (fun z => absurd z e2) (fun _ => ⟨rfl, I2⟩) (td_oY hY ha) (td_oY hY hb)⟩) (fun z => absurd e1 z) (td_nY hY ha) (td_nY hY hb)⟩)))
      · refine td_ys1 ha (br_f td_10ne (td_ys1 hb (br_f td_10ne ⟨td_s4 ha, td_s4 hb, pk_eq (inn a) (inn b) (fun z => absurd z e1) (fun _ => ⟨rfl, I2⟩) (td_nY hY ha) (td_nY hY hb)⟩)))
    · exact td_xs1 ha (br_f td_10ne (hx _ (br_t rfl (td_ys1 ha (br_f td_10ne (hy _ _ (br_t rfl ⟨rfl, I2⟩)))))))
  · exact hx _ (br_t rfl (hy _ _ (br_t rfl ⟨rfl, I2⟩)))
end
section
section
variable {f_workIn f_workOut f_workUsed f_documentLength f_draftLength f_runCount : Int32} {a_slotItems a_slotIn a_slotOut a_workItems a_document a_draft a_draftDocument a_runKinds a_runLengths : Nat → Int32}
variable {y_workIn y_used y_items y_length y_size y_printed : Int32} {b_out b_outLen b_inLen b_work b_doc b_result b_print : Nat → Int32}
variable {inn : Nat → Nat} {g : Nat → List Nat}
/-! one item drafted, one emitted -/
theorem td_xitem {post : SX → Prop} {R : List Nat} {t : Nat} {x : Int32} {dr : Nat → Int32} (hd : td_dX R dr) (hx : x = nI (td_cx t)) (hp : ∀ dr', td_dX (R ++ [t]) dr' → post (f_workIn, f_workOut, f_workUsed, f_documentLength, nI (min 41 (R ++ [t]).length), f_runCount, a_slotItems, a_slotIn, a_slotOut, a_workItems, a_document, dr', a_draftDocument, a_runKinds, a_runLengths)) : wpX_draftItem post (f_workIn, f_workOut, f_workUsed, f_documentLength, nI (min 41 R.length), f_runCount, a_slotItems, a_slotIn, a_slotOut, a_workItems, a_document, dr, a_draftDocument, a_runKinds, a_runLengths) x := by
  subst hx
  refine pk_le 41 (min 41 R.length) (fun h => ?_) (fun h => ⟨vp_in_nI h (by decide), nm_r (e' := upd dr R.length (nI (td_cx t))) ?_ (nm_r (nI_1 _) ?_)⟩)
  · have := hp dr (td_dXf hd (by omega))
    rw [td_len1, show min 41 (R.length + 1) = min 41 R.length from by omega] at this
    exact this
  · rw [nI_clamp (by omega), show min 41 R.length = R.length from by omega]
  · have := hp _ (td_dXp hd)
    rw [td_len1, show min 41 (R.length + 1) = min 41 R.length + 1 from by omega] at this
    exact this
theorem td_yemit {post : SY → Prop} {R : List Nat} {t : Nat} {x : Int32} {re : Nat → Int32} (hd : td_dY R re) (hR : R.length < 80) (hx : x = nI t) (hp : ∀ re', td_dY (R ++ [t]) re' → post (y_workIn, y_used, y_items, y_length, nI (R ++ [t]).length, y_printed, b_out, b_outLen, b_inLen, b_work, b_doc, re', b_print)) : wpY_emit post (y_workIn, y_used, y_items, y_length, nI R.length, y_printed, b_out, b_outLen, b_inLen, b_work, b_doc, re, b_print) x := by
  subst hx
  refine ⟨vp_in_nI hR (by decide), nm_r (e' := upd re R.length (nI t)) (by rw [nI_clamp (by omega)]) (nm_r (nI_1 _) ?_)⟩
  have := hp _ (td_dYp hd)
  rw [td_len1] at this
  exact this
/-! storeDraft, put -/
theorem td_xstore2 {post : Int32 → SX → Prop} {to m : Nat} {R : List Nat} (hto : to < 4) (hR : R.length ≤ 40) (hG : td_SG inn g) (hd : td_dX R a_draft) (h2 : ∀ s, s < 4 → a_slotIn s = nI (inn s)) (h3 : ∀ s, s < 4 → a_slotOut s = nI (g s).length) (hp : ∀ si sn so, td_SX (td_uN inn to m) (td_uL g to R) si sn so → post (nI R.length) (f_workIn, f_workOut, f_workUsed, f_documentLength, nI R.length, f_runCount, si, sn, so, a_workItems, a_document, a_draft, a_draftDocument, a_runKinds, a_runLengths)) : ∀ n i si, i ≤ R.length → R.length - i < n → (∀ s j, s < 4 → s ≠ to → j < (g s).length → si (s * 40 + j) = nI (td_cx (td_gt (g s) j))) → (∀ j, j < i → si (to * 40 + j) = nI (td_cx (td_gt R j))) → wX_storeDraft_2 post (nI to) (nI m) f_workIn f_workOut f_workUsed f_documentLength (nI R.length) f_runCount n (nI i) si a_slotIn a_slotOut a_workItems a_document a_draft a_draftDocument a_runKinds a_runLengths := by
  intro n
  induction n with
  | zero => intro i si _ h; exact absurd h (Nat.not_lt_zero _)
  | succ n ih =>
    intro i si hi hn e1 e2
    refine pk_le R.length i (fun h => ?_) (fun h => ?_)
    · refine ⟨td_s4 hto, nm_e ⟨td_s4 hto, nm_e (hp _ _ _ ⟨fun s j hs hj => ?_, fun s hs => ?_, fun s hs => ?_⟩)⟩⟩
      · by_cases z : s = to
        · subst z
          rw [td_uL_s] at hj ⊢
          exact e2 j (by omega)
        · rw [td_uL_n z] at hj ⊢
          exact e1 s j hs z hj
      · rw [nI_clamp (by omega)]
        by_cases z : s = to
        · subst z; rw [td_uN_s, pk_us]
        · rw [td_uN_n z, pk_un z]; exact h2 s hs
      · rw [nI_clamp (by omega)]
        by_cases z : s = to
        · subst z; rw [td_uL_s, pk_us]
        · rw [td_uL_n z, pk_un z]; exact h3 s hs
    · refine ⟨vp_in_nI (by omega) (by decide), pk_in (to * 40 + i) 160 (by omega) (td_ix _ _), nm_r (e' := upd si (to * 40 + i) (nI (td_cx (td_gt R i)))) (by rw [td_ix, nI_clamp (by omega), nI_clamp (by omega), hd i h (by omega)]) (nm_r (nI_1 _) (ih (i + 1) _ (by omega) (by omega) (fun s j hs z hj => ?_) (fun j hj => ?_)))⟩
      · have := (hG s hs).2.1
        rw [pk_un (by omega)]
        exact e1 s j hs z hj
      · by_cases z : j = i
        · subst z; rw [pk_us]
        · rw [pk_un (by omega)]; exact e2 j (by omega)
theorem td_xstore {post : Int32 → SX → Prop} {to m : Nat} {R : List Nat} {dr : Nat → Int32} (hto : to < 4) (hR : R.length ≤ 40) (hG : td_SG inn g) (hd : td_dX R dr) (hX : td_SX inn g a_slotItems a_slotIn a_slotOut) (hp : ∀ si sn so, td_SX (td_uN inn to m) (td_uL g to R) si sn so → post (nI R.length) (f_workIn, f_workOut, f_workUsed, f_documentLength, nI R.length, f_runCount, si, sn, so, a_workItems, a_document, dr, a_draftDocument, a_runKinds, a_runLengths)) : wpX_storeDraft post (f_workIn, f_workOut, f_workUsed, f_documentLength, nI (min 41 R.length), f_runCount, a_slotItems, a_slotIn, a_slotOut, a_workItems, a_document, dr, a_draftDocument, a_runKinds, a_runLengths) (nI to) (nI m) := by
  rw [show min 41 R.length = R.length from by omega]
  exact ⟨R.length + 1, td_xstore2 hto hR hG hd hX.2.1 hX.2.2 hp _ 0 _ (Nat.zero_le _) (by omega) (fun s j hs _ hj => hX.1 s j hs hj) (fun j hj => absurd hj (Nat.not_lt_zero _))⟩
theorem td_yput2 {post : Int32 → SY → Prop} {to m : Nat} {R : List Nat} (hto : to < 4) (hR : R.length ≤ 40) (hG : td_SG inn g) (hd : td_dY R b_result) (h2 : ∀ s, s < 4 → b_inLen s = nI (inn s)) (h3 : ∀ s, s < 4 → b_outLen s = nI (g s).length) (hp : ∀ si so sn, td_SY (td_uN inn to m) (td_uL g to R) si so sn → post (nI R.length) (y_workIn, y_used, y_items, y_length, nI R.length, y_printed, si, so, sn, b_work, b_doc, b_result, b_print)) : ∀ n i si, i ≤ R.length → R.length - i < n → (∀ s j, s < 4 → s ≠ to → j < (g s).length → si (s * 40 + j) = nI (td_gt (g s) j)) → (∀ j, j < i → si (to * 40 + j) = nI (td_gt R j)) → wY_put_2 post (nI to) (nI m) y_workIn y_used y_items y_length (nI R.length) y_printed n (nI i) si b_outLen b_inLen b_work b_doc b_result b_print := by
  intro n
  induction n with
  | zero => intro i si _ h; exact absurd h (Nat.not_lt_zero _)
  | succ n ih =>
    intro i si hi hn e1 e2
    refine pk_le R.length i (fun h => ?_) (fun h => ?_)
    · refine ⟨td_s4 hto, nm_e ⟨td_s4 hto, nm_e (hp _ _ _ ⟨fun s j hs hj => ?_, fun s hs => ?_, fun s hs => ?_⟩)⟩⟩
      · by_cases z : s = to
        · subst z
          rw [td_uL_s] at hj ⊢
          exact e2 j (by omega)
        · rw [td_uL_n z] at hj ⊢
          exact e1 s j hs z hj
      · rw [nI_clamp (by omega)]
        by_cases z : s = to
        · subst z; rw [td_uN_s, pk_us]
        · rw [td_uN_n z, pk_un z]; exact h2 s hs
      · rw [nI_clamp (by omega)]
        by_cases z : s = to
        · subst z; rw [td_uL_s, pk_us]
        · rw [td_uL_n z, pk_un z]; exact h3 s hs
    · refine ⟨vp_in_nI (by omega) (by decide), pk_in (to * 40 + i) 160 (by omega) (td_ix _ _), nm_r (e' := upd si (to * 40 + i) (nI (td_gt R i))) (by rw [td_ix, nI_clamp (by omega), nI_clamp (by omega), hd i h]) (nm_r (nI_1 _) (ih (i + 1) _ (by omega) (by omega) (fun s j hs z hj => ?_) (fun j hj => ?_)))⟩
      · have := (hG s hs).2.1
        rw [pk_un (by omega)]
        exact e1 s j hs z hj
      · by_cases z : j = i
        · subst z; rw [pk_us]
        · rw [pk_un (by omega)]; exact e2 j (by omega)
theorem td_yput {post : Int32 → SY → Prop} {to m : Nat} {R : List Nat} {re : Nat → Int32} (hto : to < 4) (hR : R.length ≤ 40) (hG : td_SG inn g) (hd : td_dY R re) (hY : td_SY inn g b_out b_outLen b_inLen) (hp : ∀ si so sn, td_SY (td_uN inn to m) (td_uL g to R) si so sn → post (nI R.length) (y_workIn, y_used, y_items, y_length, nI R.length, y_printed, si, so, sn, b_work, b_doc, re, b_print)) : wpY_put post (y_workIn, y_used, y_items, y_length, nI R.length, y_printed, b_out, b_outLen, b_inLen, b_work, b_doc, re, b_print) (nI to) (nI m) :=
  ⟨R.length + 1, td_yput2 hto hR hG hd hY.2.1 hY.2.2 hp _ 0 _ (Nat.zero_le _) (by omega) (fun s j hs _ hj => hY.1 s j hs hj) (fun j hj => absurd hj (Nat.not_lt_zero _))⟩
/-! draftKept -/
theorem td_xkept2 {post : SX → Prop} {e : Nat} (he : e ≤ 40) : ∀ n i R dr, i ≤ e → e - i < n → td_dX R dr → (∀ dr', td_dX (R ++ td_rg (fun p => 10 + p) i (e - i)) dr' → post (f_workIn, f_workOut, f_workUsed, f_documentLength, nI (min 41 (R ++ td_rg (fun p => 10 + p) i (e - i)).length), f_runCount, a_slotItems, a_slotIn, a_slotOut, a_workItems, a_document, dr', a_draftDocument, a_runKinds, a_runLengths)) → wX_draftKept_2 post (nI e) n (nI i) f_workIn f_workOut f_workUsed f_documentLength (nI (min 41 R.length)) f_runCount a_slotItems a_slotIn a_slotOut a_workItems a_document dr a_draftDocument a_runKinds a_runLengths := by
  intro n
  induction n with
  | zero => intro i R dr _ h; exact absurd h (Nat.not_lt_zero _)
  | succ n ih =>
    intro i R dr hi hn hd hp
    refine pk_le e i (fun h => ?_) (fun h => ?_)
    · rw [show e - i = 0 from by omega, show td_rg (fun p => 10 + p) i 0 = [] from rfl, List.append_nil] at hp
      exact hp dr hd
    · rw [td_rg_step R _ h] at hp
      exact td_xitem (t := 10 + i) hd (by rw [td_cx10]) (fun dr' hd' => nm_r (nI_1 _) (ih (i + 1) _ dr' (by omega) (by omega) hd' hp))
theorem td_xkept {post : SX → Prop} {i e : Nat} {R : List Nat} {dr : Nat → Int32} (he : e ≤ 40) (hi : i ≤ e) (hd : td_dX R dr) (hp : ∀ dr', td_dX (R ++ td_rg (fun p => 10 + p) i (e - i)) dr' → post (f_workIn, f_workOut, f_workUsed, f_documentLength, nI (min 41 (R ++ td_rg (fun p => 10 + p) i (e - i)).length), f_runCount, a_slotItems, a_slotIn, a_slotOut, a_workItems, a_document, dr', a_draftDocument, a_runKinds, a_runLengths)) : wpX_draftKept post (f_workIn, f_workOut, f_workUsed, f_documentLength, nI (min 41 R.length), f_runCount, a_slotItems, a_slotIn, a_slotOut, a_workItems, a_document, dr, a_draftDocument, a_runKinds, a_runLengths) (nI i) (nI e) :=
  ⟨e - i + 1, td_xkept2 he _ i R dr hi (by omega) hd hp⟩
/-! finish -/
theorem td_xfin {post : Int32 → SX → Prop} {wi us to : Nat} {wk : List Nat} (hto : to < 4) (hu : us ≤ wi) (hwi : wi ≤ 40) (hl : wk.length + wi - us ≤ 40) (hG : td_SG inn g) (hX : td_SX inn g a_slotItems a_slotIn a_slotOut) (hw : td_dW wk a_workItems) (hp : ∀ dr si sn so, td_SX (td_uN inn to wi) (td_uL g to (wk ++ td_rg (fun p => 10 + p) us (wi - us))) si sn so → post (nI (wk ++ td_rg (fun p => 10 + p) us (wi - us)).length) (nI wi, nI wk.length, nI us, f_documentLength, nI (wk ++ td_rg (fun p => 10 + p) us (wi - us)).length, f_runCount, si, sn, so, a_workItems, a_document, dr, a_draftDocument, a_runKinds, a_runLengths)) : ∀ n i dr, i ≤ wk.length → wk.length - i < n → td_dX (wk.take i) dr → wX_finish_38 post (nI to) n (nI i) (nI wi) (nI wk.length) (nI us) f_documentLength (nI (min 41 (wk.take i).length)) f_runCount a_slotItems a_slotIn a_slotOut a_workItems a_document dr a_draftDocument a_runKinds a_runLengths := by
  intro n
  induction n with
  | zero => intro i dr _ h; exact absurd h (Nat.not_lt_zero _)
  | succ n ih =>
    intro i dr hi hn hd
    refine pk_le wk.length i (fun h => ?_) (fun h => ?_)
    · rw [show i = wk.length from by omega, List.take_length] at hd ⊢
      refine td_xkept hwi hu hd (fun dr' hd' => ?_)
      exact td_xstore hto (by rw [List.length_append, td_rg_len]; omega) hG hd' hX (fun si sn so hS => hp dr' si sn so hS)
    · refine ⟨vp_in_nI (by omega) (by decide), td_xitem (t := td_gt wk i) hd (by rw [nI_clamp (by omega), hw i h]) (fun dr' hd' => nm_r (nI_1 _) ?_)⟩
      rw [← td_take h] at hd' ⊢
      exact ih (i + 1) dr' (by omega) (by omega) hd'
theorem td_yfin2 {post : Int32 → SY → Prop} {wi to : Nat} (hto : to < 4) (hwi : wi ≤ 40) (hG : td_SG inn g) (hY : td_SY inn g b_out b_outLen b_inLen) : ∀ n i R re, i ≤ wi → wi - i < n → R.length + (wi - i) ≤ 40 → td_dY R re → (∀ re si so sn, td_SY (td_uN inn to wi) (td_uL g to (R ++ td_rg (fun p => 10 + p) i (wi - i))) si so sn → post (nI (R ++ td_rg (fun p => 10 + p) i (wi - i)).length) (nI wi, y_used, y_items, y_length, nI (R ++ td_rg (fun p => 10 + p) i (wi - i)).length, y_printed, si, so, sn, b_work, b_doc, re, b_print)) → wY_finish_68 post (nI to) n (nI i) (nI wi) y_used y_items y_length (nI R.length) y_printed b_out b_outLen b_inLen b_work b_doc re b_print := by
  intro n
  induction n with
  | zero => intro i R re _ h; exact absurd h (Nat.not_lt_zero _)
  | succ n ih =>
    intro i R re hi hn hl hd hp
    refine pk_le wi i (fun h => ?_) (fun h => ?_)
    · rw [show wi - i = 0 from by omega, show td_rg (fun p => 10 + p) i 0 = [] from rfl, List.append_nil] at hp
      exact td_yput hto (by omega) hG hd hY (fun si so sn hS => hp re si so sn hS)
    · rw [td_rg_step R _ h] at hp
      exact td_yemit (t := 10 + i) hd (by omega) (td_10 _) (fun re' hd' => nm_r (nI_1 _) (ih (i + 1) _ re' (by omega) (by omega) (by rw [td_len1]; omega) hd' hp))
theorem td_yfin {post : Int32 → SY → Prop} {wi us to : Nat} {wk : List Nat} (hto : to < 4) (hu : us ≤ wi) (hwi : wi ≤ 40) (hl : wk.length + wi - us ≤ 40) (hG : td_SG inn g) (hY : td_SY inn g b_out b_outLen b_inLen) (hw : td_dY wk b_work) (hp : ∀ re si so sn, td_SY (td_uN inn to wi) (td_uL g to (wk ++ td_rg (fun p => 10 + p) us (wi - us))) si so sn → post (nI (wk ++ td_rg (fun p => 10 + p) us (wi - us)).length) (nI wi, nI us, nI wk.length, y_length, nI (wk ++ td_rg (fun p => 10 + p) us (wi - us)).length, y_printed, si, so, sn, b_work, b_doc, re, b_print)) : ∀ n i re, i ≤ wk.length → wk.length - i < n → td_dY (wk.take i) re → wY_finish_39 post (nI to) n (nI i) (nI wi) (nI us) (nI wk.length) y_length (nI (wk.take i).length) y_printed b_out b_outLen b_inLen b_work b_doc re b_print := by
  intro n
  induction n with
  | zero => intro i re _ h; exact absurd h (Nat.not_lt_zero _)
  | succ n ih =>
    intro i re hi hn hd
    refine pk_le wk.length i (fun h => ?_) (fun h => ?_)
    · rw [show i = wk.length from by omega, List.take_length] at hd ⊢
      exact ⟨wi - us + 1, td_yfin2 hto hwi hG hY _ us wk re hu (by omega) (by omega) hd hp⟩
    · have hz : (wk.take i).length = i := by rw [List.length_take]; omega
      refine ⟨vp_in_nI (by omega) (by decide), td_yemit (t := td_gt wk i) hd (by omega) (by rw [nI_clamp (by omega), hw i h]) (fun re' hd' => nm_r (nI_1 _) ?_)⟩
      rw [← td_take h] at hd' ⊢
      exact ih (i + 1) re' (by omega) (by omega) hd'
end
theorem i_vc_finish {k : Nat} {u : SX} {v : SY} (I : i_Rel k u v) (hk : k + 5 ≤ 2560) (v1 : Int32) : wpX_finish (fun r u' => wpY_finish (fun r' v' => r' = r ∧ i_Rel (k + 5) u' v') v v1) u v1 := by
  obtain ⟨f_workIn, f_workOut, f_workUsed, f_documentLength, f_draftLength, f_runCount, a_slotItems, a_slotIn, a_slotOut, a_workItems, a_document, a_draft, a_draftDocument, a_runKinds, a_runLengths⟩ := u
  obtain ⟨y_workIn, y_used, y_items, y_length, y_size, y_printed, b_out, b_outLen, b_inLen, b_work, b_doc, b_result, b_print⟩ := v
  have I2 := I
  obtain ⟨wi, us, wk, dc, inn, g, hK, hG, ⟨rfl, rfl, rfl, rfl, hX, hw, hd⟩, rfl, rfl, rfl, rfl, hY, hw2, hd2⟩ := I
  obtain ⟨k1, k2, k3, k4, k5⟩ := hK
  unfold wpX_finish wpY_finish
  rcases td_slot v1 with ⟨s, hs, rfl⟩ | ⟨hx, hy⟩
  · have e : nI wk.length + nI wi - nI us = nI (wk.length + wi - us) := by rw [nI_add, pk_sub (by omega)]
    refine td_xs1 hs (br_f td_10ne (pk_le (wk.length + wi - us) 40 (fun h => ⟨wk.length + 1, ?_⟩) (fun h => ?_) e))
    · refine td_xfin hs k1 k2 h hG hX hw (fun dr si sn so hS => ?_) _ 0 _ (Nat.zero_le _) (by omega) (td_dX0 _)
      refine td_ys1 hs (br_f td_10ne (pk_le (wk.length + wi - us) 40 (fun _ => ⟨wk.length + 1, ?_⟩) (fun z => absurd z (by omega)) e))
      refine td_yfin hs k1 k2 h hG hY hw2 (fun re ti tn to hT => ⟨rfl, ?_⟩) _ 0 _ (Nat.zero_le _) (by omega) (td_dY0 _)
      have hwf := td_rg_wfK (wi - us) wk us k4
      rw [show us + (wi - us) = wi from by omega] at hwf
      exact td_mk ⟨k1, k2, k3, k4, k5⟩ (td_SGu hG k2 (by rw [List.length_append, td_rg_len]; omega) hwf) hS hw hd hT hw2 hd2
    · exact td_ys1 hs (br_f td_10ne (pk_le (wk.length + wi - us) 40 (fun z => absurd z (by omega)) (fun _ => ⟨rfl, I2⟩) e))
  · exact hx _ (br_t rfl (hy _ _ (br_t rfl ⟨rfl, I2⟩)))
end
section
/-! join: a kept item of b becomes a's item there -/
def td_jn (A : List Nat) (t : Nat) : Nat := if t < 10 then t else td_gt A (t - 10)
theorem td_jnw {m : Nat} {A B : List Nat} (hA : td_wf m A) (hB : td_wf A.length B) : td_wf m (B.map (td_jn A)) := by
  refine ⟨fun i hi => ?_, fun i j hij hj h10 => ?_⟩
  · rw [List.length_map] at hi
    rw [td_gt_map hi]
    unfold td_jn
    split
    · omega
    · exact hA.1 _ (by have := hB.1 i hi; omega)
  · rw [List.length_map] at hj
    rw [td_gt_map (by omega)] at h10 ⊢
    rw [td_gt_map hj]
    have hbi := hB.1 i (by omega)
    have hbj := hB.1 j hj
    unfold td_jn at h10 ⊢
    by_cases z : td_gt B i < 10
    · rw [if_pos z] at h10; omega
    · rw [if_neg z] at h10 ⊢
      by_cases y : td_gt B j < 10
      · rw [if_pos y]; exact Or.inr y
      · rw [if_neg y]
        have := hB.2 i j hij hj (by omega)
        exact hA.2 (td_gt B i - 10) (td_gt B j - 10) (by omega) (by omega) h10
theorem td_takeM {L : List Nat} {c : Nat → Nat} {i : Nat} (h : i < L.length) : (L.take (i + 1)).map c = (L.take i).map c ++ [c (td_gt L i)] := by
  rw [td_take h, List.map_append]; rfl
section
variable {f_workIn f_workOut f_workUsed f_documentLength f_draftLength f_runCount : Int32} {a_slotItems a_slotIn a_slotOut a_workItems a_document a_draft a_draftDocument a_runKinds a_runLengths : Nat → Int32}
variable {y_workIn y_used y_items y_length y_size y_printed : Int32} {b_out b_outLen b_inLen b_work b_doc b_result b_print : Nat → Int32}
variable {inn : Nat → Nat} {g : Nat → List Nat}
theorem td_xjoin {post : Int32 → SX → Prop} {a b to : Nat} (ha : a < 4) (hb : b < 4) (hto : to < 4) (hab : (g a).length = inn b) (hG : td_SG inn g) (hX : td_SX inn g a_slotItems a_slotIn a_slotOut) (hp : ∀ dr si sn so, td_SX (td_uN inn to (inn a)) (td_uL g to ((g b).map (td_jn (g a)))) si sn so → post (nI (g b).length) (f_workIn, f_workOut, f_workUsed, f_documentLength, nI (g b).length, f_runCount, si, sn, so, a_workItems, a_document, dr, a_draftDocument, a_runKinds, a_runLengths)) : ∀ n i dr, i ≤ (g b).length → (g b).length - i < n → td_dX (((g b).take i).map (td_jn (g a))) dr → wX_join_49 post (nI a) (nI b) (nI to) n (nI i) f_workIn f_workOut f_workUsed f_documentLength (nI (min 41 (((g b).take i).map (td_jn (g a))).length)) f_runCount a_slotItems a_slotIn a_slotOut a_workItems a_document dr a_draftDocument a_runKinds a_runLengths := by
  have hL := (hG b hb).2.1
  intro n
  induction n with
  | zero => intro i dr _ h; exact absurd h (Nat.not_lt_zero _)
  | succ n ih =>
    intro i dr hi hn hd
    refine ⟨td_s4 hb, pk_le (g b).length i (fun h => ⟨td_s4 ha, ?_⟩) (fun h => ⟨td_cI hG hb h, nm_r (td_cX hX hG hb h) ?_⟩) (td_oX hX hb)⟩
    · rw [show i = (g b).length from by omega, List.take_length] at hd ⊢
      rw [td_nX hX ha]
      refine td_xstore hto (by rw [List.length_map]; exact hL) hG hd hX (fun si sn so hS => ?_)
      have := hp dr si sn so hS
      rw [List.length_map]
      exact this
    · have h60 := td_g60 hG hb h
      have hwf := (hG b hb).2.2.1 i h
      have next : ∀ x, x = nI (td_cx (td_jn (g a) (td_gt (g b) i))) → wX_join_96 post (wX_join_49 post (nI a) (nI b) (nI to) n) (nI a) (nI b) (nI to) (nI i) x f_workIn f_workOut f_workUsed f_documentLength (nI (min 41 (((g b).take i).map (td_jn (g a))).length)) f_runCount a_slotItems a_slotIn a_slotOut a_workItems a_document dr a_draftDocument a_runKinds a_runLengths := by
        intro x ex
        refine td_xitem hd ex (fun dr' hd' => nm_r (nI_1 _) ?_)
        rw [← td_takeM h] at hd' ⊢
        exact ih (i + 1) dr' (by omega) (by omega) hd'
      by_cases z : td_gt (g b) i < 10
      · refine td_xn1 z (br_f td_10ne (next _ ?_))
        rw [td_jn, if_pos z]
      · refine td_xn0 (by omega) (by omega) (br_t rfl ?_)
        rw [td_cxK (by omega)]
        refine ⟨td_cI hG ha (by omega), nm_r (td_cX hX hG ha (by omega)) (next _ ?_)⟩
        rw [td_jn, if_neg z]
theorem td_yjoin {post : Int32 → SY → Prop} {a b to : Nat} (ha : a < 4) (hb : b < 4) (hto : to < 4) (hab : (g a).length = inn b) (hG : td_SG inn g) (hY : td_SY inn g b_out b_outLen b_inLen) (hp : ∀ re si so sn, td_SY (td_uN inn to (inn a)) (td_uL g to ((g b).map (td_jn (g a)))) si so sn → post (nI (g b).length) (y_workIn, y_used, y_items, y_length, nI (g b).length, y_printed, si, so, sn, b_work, b_doc, re, b_print)) : ∀ n i re, i ≤ (g b).length → (g b).length - i < n → td_dY (((g b).take i).map (td_jn (g a))) re → wY_join_52 post (nI a) (nI b) (nI to) n (nI i) y_workIn y_used y_items y_length (nI (((g b).take i).map (td_jn (g a))).length) y_printed b_out b_outLen b_inLen b_work b_doc re b_print := by
  have hL := (hG b hb).2.1
  intro n
  induction n with
  | zero => intro i re _ h; exact absurd h (Nat.not_lt_zero _)
  | succ n ih =>
    intro i re hi hn hd
    refine ⟨td_s4 hb, pk_le (g b).length i (fun h => ⟨td_s4 ha, ?_⟩) (fun h => ⟨td_cI hG hb h, nm_r (td_cY hY hG hb h) ?_⟩) (td_oY hY hb)⟩
    · rw [show i = (g b).length from by omega, List.take_length] at hd ⊢
      rw [td_nY hY ha]
      refine td_yput hto (by rw [List.length_map]; exact hL) hG hd hY (fun si so sn hS => ?_)
      have := hp re si so sn hS
      rw [List.length_map]
      exact this
    · have h60 := td_g60 hG hb h
      have hwf := (hG b hb).2.2.1 i h
      have hla := (hG a ha).2.1
      have hz : (((g b).take i).map (td_jn (g a))).length = i := by rw [List.length_map, List.length_take]; omega
      have next : ∀ x, x = nI (td_jn (g a) (td_gt (g b) i)) → wY_join_105 post (wY_join_52 post (nI a) (nI b) (nI to) n) (nI a) (nI b) (nI to) (nI i) x y_workIn y_used y_items y_length (nI (((g b).take i).map (td_jn (g a))).length) y_printed b_out b_outLen b_inLen b_work b_doc re b_print := by
        intro x ex
        refine td_yemit hd (by omega) ex (fun re' hd' => nm_r (nI_1 _) ?_)
        rw [← td_takeM h] at hd' ⊢
        exact ih (i + 1) re' (by omega) (by omega) hd'
      refine pk_le 10 (td_gt (g b) i) (fun z => ?_) (fun z => next _ (by rw [td_jn, if_pos z]))
      have e : nI a * 40 + nI (td_gt (g b) i) - 10 = nI a * 40 + nI (td_gt (g b) i - 10) := by
        rw [td_ix, td_ix, td_s10 (by omega), show a * 40 + td_gt (g b) i - 10 = a * 40 + (td_gt (g b) i - 10) from by omega]
      rw [e]
      refine ⟨td_cI hG ha (by omega), next _ ?_⟩
      rw [td_cY hY hG ha (by omega), td_jn, if_neg (by omega)]
end
theorem i_vc_join {k : Nat} {u : SX} {v : SY} (I : i_Rel k u v) (hk : k + 5 ≤ 2560) (v1 : Int32) (v2 : Int32) (v3 : Int32) : wpX_join (fun r u' => wpY_join (fun r' v' => r' = r ∧ i_Rel (k + 5) u' v') v v1 v2 v3) u v1 v2 v3 := by
  obtain ⟨f_workIn, f_workOut, f_workUsed, f_documentLength, f_draftLength, f_runCount, a_slotItems, a_slotIn, a_slotOut, a_workItems, a_document, a_draft, a_draftDocument, a_runKinds, a_runLengths⟩ := u
  obtain ⟨y_workIn, y_used, y_items, y_length, y_size, y_printed, b_out, b_outLen, b_inLen, b_work, b_doc, b_result, b_print⟩ := v
  have I2 := I
  obtain ⟨wi, us, wk, dc, inn, g, hK, hG, ⟨rfl, rfl, rfl, rfl, hX, hw, hd⟩, rfl, rfl, rfl, rfl, hY, hw2, hd2⟩ := I
  unfold wpX_join wpY_join
  rcases td_slot v1 with ⟨a, ha, rfl⟩ | ⟨hx, hy⟩
  · rcases td_slot v2 with ⟨b, hb, rfl⟩ | ⟨hx, hy⟩
    · rcases td_slot v3 with ⟨c, hc, rfl⟩ | ⟨hx, hy⟩
      · have b1 := (hG a ha).2.1
        have b2 := (hG b hb).1
        refine td_xs1 ha (br_f td_10ne (td_xs1 hb (br_f td_10ne (td_xs1 hc (br_f td_10ne ⟨td_s4 ha, td_s4 hb, pk_eq (g a).length (inn b) (fun e => ⟨(g b).length + 1, ?_⟩) (fun e => ?_) (td_oX hX ha) (td_nX hX hb)⟩)))))
        · refine td_xjoin ha hb hc e hG hX (fun dr si sn so hS => ?_) _ 0 _ (Nat.zero_le _) (by omega) (td_dX0 _)
          refine td_ys1 ha (br_f td_10ne (td_ys1 hb (br_f td_10ne (td_ys1 hc (br_f td_10ne ⟨td_s4 ha, td_s4 hb, pk_eq (g a).length (inn b) (fun _ => ⟨(g b).length + 1, ?_⟩) (fun z => absurd e z) (td_oY hY ha) (td_nY hY hb)⟩)))))
          refine td_yjoin ha hb hc e hG hY (fun re ti tn to hT => ⟨rfl, ?_⟩) _ 0 _ (Nat.zero_le _) (by omega) (td_dY0 _)
          exact td_mk hK (td_SGu hG (hG a ha).1 (by rw [List.length_map]; exact (hG b hb).2.1) (td_jnw (hG a ha).2.2 (by rw [e]; exact (hG b hb).2.2))) hS hw hd hT hw2 hd2
        · exact td_ys1 ha (br_f td_10ne (td_ys1 hb (br_f td_10ne (td_ys1 hc (br_f td_10ne ⟨td_s4 ha, td_s4 hb, pk_eq (g a).length (inn b) (fun z => absurd z e) (fun _ => ⟨rfl, I2⟩) (td_oY hY ha) (td_nY hY hb)⟩)))))
      · exact td_xs1 ha (br_f td_10ne (td_xs1 hb (br_f td_10ne (hx _ (br_t rfl (td_ys1 ha (br_f td_10ne (td_ys1 hb (br_f td_10ne (hy _ _ (br_t rfl ⟨rfl, I2⟩)))))))))))
    · exact td_xs1 ha (br_f td_10ne (hx _ (br_t rfl (td_ys1 ha (br_f td_10ne (hy _ _ (br_t rfl ⟨rfl, I2⟩)))))))
  · exact hx _ (br_t rfl (hy _ _ (br_t rfl ⟨rfl, I2⟩)))
end
section
def td_en (f : Nat → Nat) : Nat → Nat → Nat
  | 0, i => i
  | d + 1, i => if f i < 10 then td_en f d (i + 1) else i
def td_e (L : List Nat) (p : Nat) : Nat := td_en (td_gt L) (L.length - p) p
theorem td_en_p {f : Nat → Nat} {n : Nat} : ∀ d i, i + d = n → td_En f n i (td_en f d i) := by
  intro d
  induction d with
  | zero => intro i h; exact ⟨Nat.le_refl _, by show i ≤ n; omega, fun j h1 h2 => absurd h1 (by have : j < i := h2; omega), fun h2 => absurd h2 (by show ¬ i < n; omega)⟩
  | succ d ih =>
    intro i h
    show td_En f n i (if f i < 10 then td_en f d (i + 1) else i)
    by_cases z : f i < 10
    · rw [if_pos z]
      obtain ⟨a1, a2, a3, a4⟩ := ih (i + 1) (by omega)
      refine ⟨by omega, a2, fun j h1 h2 => ?_, a4⟩
      by_cases y : j = i
      · rw [y]; exact z
      · exact a3 j (by omega) h2
    · rw [if_neg z]
      exact ⟨Nat.le_refl _, by omega, fun j h1 h2 => by omega, fun _ => by omega⟩
theorem td_eP {L : List Nat} {p : Nat} (h : p ≤ L.length) : td_En (td_gt L) L.length p (td_e L p) := td_en_p _ _ (by omega)
theorem td_eN {L : List Nat} {p : Nat} (h : p < L.length) (hn : td_gt L p < 10) : td_e L p = td_e L (p + 1) := by
  unfold td_e
  rw [show L.length - p = (L.length - (p + 1)) + 1 from by omega]
  show (if td_gt L p < 10 then td_en (td_gt L) (L.length - (p + 1)) (p + 1) else p) = _
  rw [if_pos hn]
theorem td_eK {L : List Nat} {p : Nat} (h : p < L.length) (hn : 10 ≤ td_gt L p) : td_e L p = p := by
  unfold td_e
  rw [show L.length - p = (L.length - (p + 1)) + 1 from by omega]
  show (if td_gt L p < 10 then td_en (td_gt L) (L.length - (p + 1)) (p + 1) else p) = _
  rw [if_neg (by omega)]
theorem td_eL {L : List Nat} {p : Nat} (h : p = L.length) : td_e L p = p := by
  unfold td_e
  rw [show L.length - p = 0 from by omega]
  rfl
section
variable {f_workIn f_workOut f_workUsed f_documentLength f_draftLength f_runCount : Int32} {a_slotItems a_slotIn a_slotOut a_workItems a_document a_draft a_draftDocument a_runKinds a_runLengths : Nat → Int32}
variable {y_workIn y_used y_items y_length y_size y_printed : Int32} {b_out b_outLen b_inLen b_work b_doc b_result b_print : Nat → Int32}
variable {inn : Nat → Nat} {g : Nat → List Nat}
/-! X: keepsNext, endOfNew, draftNewOf -/
theorem td_xkn {post : Int32 → Prop} {s p q : Nat} (hs : s < 4) (hG : td_SG inn g) (hX : td_SX inn g a_slotItems a_slotIn a_slotOut) (hp : p ≤ (g s).length) (hq : q ≤ 40) (h1 : p < (g s).length ∧ td_gt (g s) p = 10 + q → post 1) (h0 : ¬ (p < (g s).length ∧ td_gt (g s) p = 10 + q) → post 0) : wpX_keepsNext post (f_workIn, f_workOut, f_workUsed, f_documentLength, f_draftLength, f_runCount, a_slotItems, a_slotIn, a_slotOut, a_workItems, a_document, a_draft, a_draftDocument, a_runKinds, a_runLengths) (nI s) (nI p) (nI q) := by
  have hL := (hG s hs).2.1
  refine ⟨td_s4 hs, pk_le (g s).length p (fun h => h0 (by omega)) (fun h => ⟨td_cI hG hs h, ?_⟩) (td_oX hX hs)⟩
  have h60 := td_g60 hG hs h
  have h61 := td_cx_lt (t := td_gt (g s) p) (by omega)
  refine pk_eq (td_cx (td_gt (g s) p)) q (fun e => h1 ⟨h, ?_⟩) (fun e => h0 (fun z => e ?_)) (td_cX hX hG hs h) rfl
  · unfold td_cx at e
    split at e <;> omega
  · rw [z.2, td_cx10]
theorem td_xkn0 {post : Int32 → Prop} {s p : Nat} {x : Int32} (hs : s < 4) (hG : td_SG inn g) (hX : td_SX inn g a_slotItems a_slotIn a_slotOut) (hp : p ≤ (g s).length) (hx : x = -1) (h0 : post 0) : wpX_keepsNext post (f_workIn, f_workOut, f_workUsed, f_documentLength, f_draftLength, f_runCount, a_slotItems, a_slotIn, a_slotOut, a_workItems, a_document, a_draft, a_draftDocument, a_runKinds, a_runLengths) (nI s) (nI p) x := by
  have hL := (hG s hs).2.1
  subst hx
  refine ⟨td_s4 hs, pk_le (g s).length p (fun h => h0) (fun h => ⟨td_cI hG hs h, ?_⟩) (td_oX hX hs)⟩
  have h60 := td_g60 hG hs h
  have h61 := td_cx_lt (t := td_gt (g s) p) (by omega)
  rw [td_cX hX hG hs h]
  exact br_f (td_nm1 (by omega)) h0
theorem td_xend2 {post : Int32 → Prop} {s : Nat} (hs : s < 4) (hG : td_SG inn g) (hX : td_SX inn g a_slotItems a_slotIn a_slotOut) : ∀ n i, i ≤ (g s).length → (g s).length - i < n → post (nI (td_e (g s) i)) → wX_endOfNew_2 post (nI s) f_workIn f_workOut f_workUsed f_documentLength f_draftLength f_runCount a_slotItems a_slotIn a_slotOut a_workItems a_document a_draft a_draftDocument a_runKinds a_runLengths n (nI i) := by
  have hL := (hG s hs).2.1
  intro n
  induction n with
  | zero => intro i _ h; exact absurd h (Nat.not_lt_zero _)
  | succ n ih =>
    intro i hi hn hp
    refine ⟨td_s4 hs, pk_le (g s).length i (fun h => ⟨td_s4 hs, ?_⟩) (fun h => ⟨td_cI hG hs h, ?_⟩) (td_oX hX hs)⟩
    · rw [td_eL (by omega), show i = (g s).length from by omega] at hp
      rw [td_oX hX hs]
      exact hp
    · have h60 := td_g60 hG hs h
      rw [td_cX hX hG hs h]
      by_cases z : td_gt (g s) i < 10
      · rw [td_eN h z] at hp
        exact td_xn1 z (br_f td_10ne (nm_r (nI_1 _) (ih (i + 1) (by omega) (by omega) hp)))
      · rw [td_eK h (by omega)] at hp
        exact td_xn0 (by omega) (by omega) (br_t rfl hp)
theorem td_xend {post : Int32 → Prop} {s i : Nat} (hs : s < 4) (hG : td_SG inn g) (hX : td_SX inn g a_slotItems a_slotIn a_slotOut) (hi : i ≤ (g s).length) (hp : post (nI (td_e (g s) i))) : wpX_endOfNew post (f_workIn, f_workOut, f_workUsed, f_documentLength, f_draftLength, f_runCount, a_slotItems, a_slotIn, a_slotOut, a_workItems, a_document, a_draft, a_draftDocument, a_runKinds, a_runLengths) (nI s) (nI i) :=
  ⟨(g s).length - i + 1, td_xend2 hs hG hX _ i hi (by omega) hp⟩
theorem td_xnew2 {post : SX → Prop} {s e : Nat} (hs : s < 4) (hG : td_SG inn g) (hX : td_SX inn g a_slotItems a_slotIn a_slotOut) (he : e ≤ (g s).length) : ∀ n i R dr, i ≤ e → e - i < n → td_dX R dr → (∀ dr', td_dX (R ++ td_rg (td_gt (g s)) i (e - i)) dr' → post (f_workIn, f_workOut, f_workUsed, f_documentLength, nI (min 41 (R ++ td_rg (td_gt (g s)) i (e - i)).length), f_runCount, a_slotItems, a_slotIn, a_slotOut, a_workItems, a_document, dr', a_draftDocument, a_runKinds, a_runLengths)) → wX_draftNewOf_3 post (nI s) (nI e) n (nI i) f_workIn f_workOut f_workUsed f_documentLength (nI (min 41 R.length)) f_runCount a_slotItems a_slotIn a_slotOut a_workItems a_document dr a_draftDocument a_runKinds a_runLengths := by
  have hL := (hG s hs).2.1
  intro n
  induction n with
  | zero => intro i R dr _ h; exact absurd h (Nat.not_lt_zero _)
  | succ n ih =>
    intro i R dr hi hn hd hp
    refine pk_le e i (fun h => ?_) (fun h => ⟨td_cI hG hs (by omega), ?_⟩)
    · rw [show e - i = 0 from by omega, show td_rg (td_gt (g s)) i 0 = [] from rfl, List.append_nil] at hp
      exact hp dr hd
    · rw [td_rg_step R _ h] at hp
      exact td_xitem hd (td_cX hX hG hs (by omega)) (fun dr' hd' => nm_r (nI_1 _) (ih (i + 1) _ dr' (by omega) (by omega) hd' hp))
theorem td_xnew {post : SX → Prop} {s i e : Nat} {R : List Nat} {dr : Nat → Int32} (hs : s < 4) (hG : td_SG inn g) (hX : td_SX inn g a_slotItems a_slotIn a_slotOut) (he : e ≤ (g s).length) (hi : i ≤ e) (hd : td_dX R dr) (hp : ∀ dr', td_dX (R ++ td_rg (td_gt (g s)) i (e - i)) dr' → post (f_workIn, f_workOut, f_workUsed, f_documentLength, nI (min 41 (R ++ td_rg (td_gt (g s)) i (e - i)).length), f_runCount, a_slotItems, a_slotIn, a_slotOut, a_workItems, a_document, dr', a_draftDocument, a_runKinds, a_runLengths)) : wpX_draftNewOf post (f_workIn, f_workOut, f_workUsed, f_documentLength, nI (min 41 R.length), f_runCount, a_slotItems, a_slotIn, a_slotOut, a_workItems, a_document, dr, a_draftDocument, a_runKinds, a_runLengths) (nI s) (nI i) (nI e) :=
  ⟨e - i + 1, td_xnew2 hs hG hX he _ i R dr hi (by omega) hd hp⟩
/-! Y: placeOf, gapOf, emitGap, emitBoth -/
theorem td_yplK2 {post : Int32 → Prop} {s p q : Nat} (hs : s < 4) (hG : td_SG inn g) (hY : td_SY inn g b_out b_outLen b_inLen) (hq : q ≤ 40) (hp : p < (g s).length) (hk : td_gt (g s) p = 10 + q) (hu : ∀ i, i < (g s).length → td_gt (g s) i = 10 + q → i = p) (h1 : post (nI p)) : ∀ n i x, i ≤ (g s).length → (g s).length - i < n → (p < i → x = nI p) → wY_placeOf_5 post (nI s) (nI q) y_workIn y_used y_items y_length y_size y_printed b_out b_outLen b_inLen b_work b_doc b_result b_print n x (nI i) := by
  have hL := (hG s hs).2.1
  intro n
  induction n with
  | zero => intro i x _ h; exact absurd h (Nat.not_lt_zero _)
  | succ n ih =>
    intro i x hi hn hx
    refine ⟨td_s4 hs, pk_le (g s).length i (fun h => ?_) (fun h => ⟨td_cI hG hs h, ?_⟩) (td_oY hY hs)⟩
    · rw [hx (by omega)]; exact h1
    · have h60 := td_g60 hG hs h
      refine pk_eq (td_gt (g s) i) (10 + q) (fun e => nm_r (nI_1 _) (ih (i + 1) _ (by omega) (by omega) (fun _ => ?_))) (fun e => nm_r (nI_1 _) (ih (i + 1) _ (by omega) (by omega) (fun z => hx ?_))) (td_cY hY hG hs h) (td_10 q)
      · rw [hu i h e]
      · have : p ≠ i := fun w => e (by rw [← w]; exact hk)
        omega
theorem td_yplK {post : Int32 → Prop} {s p q : Nat} (hs : s < 4) (hG : td_SG inn g) (hY : td_SY inn g b_out b_outLen b_inLen) (hq : q ≤ 40) (hp : p < (g s).length) (hk : td_gt (g s) p = 10 + q) (hu : ∀ i, i < (g s).length → td_gt (g s) i = 10 + q → i = p) (h1 : post (nI p)) : wpY_placeOf post (y_workIn, y_used, y_items, y_length, y_size, y_printed, b_out, b_outLen, b_inLen, b_work, b_doc, b_result, b_print) (nI s) (nI q) :=
  ⟨(g s).length + 1, td_yplK2 hs hG hY hq hp hk hu h1 _ 0 _ (Nat.zero_le _) (by omega) (fun z => absurd z (Nat.not_lt_zero _))⟩
theorem td_yplD2 {post : Int32 → Prop} {s q : Nat} (hs : s < 4) (hG : td_SG inn g) (hY : td_SY inn g b_out b_outLen b_inLen) (hq : q ≤ 40) (hu : ∀ i, i < (g s).length → td_gt (g s) i ≠ 10 + q) (h1 : post (-1)) : ∀ n i, i ≤ (g s).length → (g s).length - i < n → wY_placeOf_5 post (nI s) (nI q) y_workIn y_used y_items y_length y_size y_printed b_out b_outLen b_inLen b_work b_doc b_result b_print n (-1) (nI i) := by
  have hL := (hG s hs).2.1
  intro n
  induction n with
  | zero => intro i _ h; exact absurd h (Nat.not_lt_zero _)
  | succ n ih =>
    intro i hi hn
    refine ⟨td_s4 hs, pk_le (g s).length i (fun h => h1) (fun h => ⟨td_cI hG hs h, ?_⟩) (td_oY hY hs)⟩
    have h60 := td_g60 hG hs h
    exact pk_eq (td_gt (g s) i) (10 + q) (fun e => absurd e (hu i h)) (fun e => nm_r (nI_1 _) (ih (i + 1) (by omega) (by omega))) (td_cY hY hG hs h) (td_10 q)
theorem td_yplD {post : Int32 → Prop} {s q : Nat} (hs : s < 4) (hG : td_SG inn g) (hY : td_SY inn g b_out b_outLen b_inLen) (hq : q ≤ 40) (hu : ∀ i, i < (g s).length → td_gt (g s) i ≠ 10 + q) (h1 : post (-1)) : wpY_placeOf post (y_workIn, y_used, y_items, y_length, y_size, y_printed, b_out, b_outLen, b_inLen, b_work, b_doc, b_result, b_print) (nI s) (nI q) :=
  ⟨(g s).length + 1, td_yplD2 hs hG hY hq hu h1 _ 0 (Nat.zero_le _) (by omega)⟩
theorem td_ygap2 {post : Int32 → Prop} {s p : Nat} (hs : s < 4) (hG : td_SG inn g) (hY : td_SY inn g b_out b_outLen b_inLen) (hp : p ≤ (g s).length) (h1 : post (nI (td_ga (td_gt (g s)) p))) : ∀ n i, i ≤ p → p - i < n → wY_gapOf_5 post (nI s) (nI p) y_workIn y_used y_items y_length y_size y_printed b_out b_outLen b_inLen b_work b_doc b_result b_print n (nI (td_ga (td_gt (g s)) i)) (nI i) := by
  have hL := (hG s hs).2.1
  intro n
  induction n with
  | zero => intro i _ h; exact absurd h (Nat.not_lt_zero _)
  | succ n ih =>
    intro i hi hn
    refine pk_le p i (fun h => ?_) (fun h => ⟨td_cI hG hs (by omega), ?_⟩)
    · rw [show i = p from by omega]; exact h1
    · have h60 := td_g60 hG hs (i := i) (by omega)
      have hi2 := ih (i + 1) (by omega) (by omega)
      rw [show td_ga (td_gt (g s)) (i + 1) = if td_gt (g s) i < 10 then td_ga (td_gt (g s)) i else td_gt (g s) i - 10 + 1 from rfl] at hi2
      refine pk_lt (td_gt (g s) i) 10 (fun z => nm_r (nI_1 _) ?_) (fun z => ⟨td_cI hG hs (by omega), nm_r (e' := nI (td_gt (g s) i - 10 + 1)) ?_ (nm_r (nI_1 _) ?_)⟩) (td_cY hY hG hs (by omega)) rfl
      · rw [if_pos z] at hi2; exact hi2
      · rw [td_cY hY hG hs (by omega), td_s10 z, nI_1]
      · rw [if_neg (by omega)] at hi2; exact hi2
theorem td_ygap {post : Int32 → Prop} {s p : Nat} (hs : s < 4) (hG : td_SG inn g) (hY : td_SY inn g b_out b_outLen b_inLen) (hp : p ≤ (g s).length) (h1 : post (nI (td_ga (td_gt (g s)) p))) : wpY_gapOf post (y_workIn, y_used, y_items, y_length, y_size, y_printed, b_out, b_outLen, b_inLen, b_work, b_doc, b_result, b_print) (nI s) (nI p) :=
  ⟨p + 1, td_ygap2 hs hG hY hp h1 _ 0 (Nat.zero_le _) (by omega)⟩
theorem td_ga50 {s p : Nat} (hs : s < 4) (hG : td_SG inn g) (hp : p ≤ (g s).length) : td_ga (td_gt (g s)) p ≤ 40 :=
  td_ga_le p (fun j hj => by have := td_g60 hG hs (i := j) (by omega); omega)
theorem td_yemg2 {post : SY → Prop} {s G p e : Nat} {x : Int32} {c : Nat → Nat} (hs : s < 4) (hG : td_SG inn g) (hY : td_SY inn g b_out b_outLen b_inLen) (hc : (x = 0 ∧ ∀ i, c i = td_gt (g s) i) ∨ (¬ x = 0 ∧ ∀ i, c i = 10 + i)) (hGb : G ≤ 41) (hpe : p ≤ e) (hen : e ≤ (g s).length) (hg : ∀ i, i < (g s).length → ((td_gt (g s) i < 10 ∧ td_ga (td_gt (g s)) i = G) ↔ (p ≤ i ∧ i < e))) : ∀ n i R re, i ≤ (g s).length → (g s).length - i < n → R.length + (e - max i p) ≤ 80 → td_dY R re → (∀ re', td_dY (R ++ td_rg c (max i p) (e - max i p)) re' → post (y_workIn, y_used, y_items, y_length, nI (R ++ td_rg c (max i p) (e - max i p)).length, y_printed, b_out, b_outLen, b_inLen, b_work, b_doc, re', b_print)) → wY_emitGap_3 post (nI s) (nI G) x n (nI i) y_workIn y_used y_items y_length (nI R.length) y_printed b_out b_outLen b_inLen b_work b_doc re b_print := by
  have hL := (hG s hs).2.1
  intro n
  induction n with
  | zero => intro i R re _ h; exact absurd h (Nat.not_lt_zero _)
  | succ n ih =>
    intro i R re hi hn hl hd hp
    refine ⟨td_s4 hs, pk_le (g s).length i (fun h => ?_) (fun h => ⟨td_cI hG hs h, nm_r (td_cY hY hG hs h) ?_⟩) (td_oY hY hs)⟩
    · rw [show e - max i p = 0 from by omega, show td_rg c (max i p) 0 = [] from rfl, List.append_nil] at hp
      exact hp re hd
    · have h60 := td_g60 hG hs h
      have h41 := td_ga50 hs hG (p := i) (by omega)
      have skip : ¬ (p ≤ i ∧ i < e) → wY_emitGap_3 post (nI s) (nI G) x n (nI (i + 1)) y_workIn y_used y_items y_length (nI R.length) y_printed b_out b_outLen b_inLen b_work b_doc re b_print := by
        intro z
        refine ih (i + 1) R re (by omega) (by omega) (by omega) hd ?_
        by_cases y : i < p
        · rw [show max (i + 1) p = max i p from by omega]; exact hp
        · rw [show e - max (i + 1) p = 0 from by omega]
          rw [show e - max i p = 0 from by omega] at hp
          exact hp
      refine pk_le 10 (td_gt (g s) i) (fun z => nm_r (nI_1 _) (skip (fun y => by have := (hg i h).mpr y; omega))) (fun z => td_ygap hs hG hY (by omega) ?_)
      refine pk_eq (td_ga (td_gt (g s)) i) G (fun y => ?_) (fun y => nm_r (nI_1 _) (skip (fun w => y ((hg i h).mpr w).2)))
      have hr := (hg i h).mp ⟨z, y⟩
      rw [show max i p = i from by omega, td_rg_step R c hr.2] at hp
      have next : ∀ v, v = nI (c i) → wY_emitGap_61 post (wY_emitGap_3 post (nI s) (nI G) x n) (nI s) (nI G) x (nI i) v y_workIn y_used y_items y_length (nI R.length) y_printed b_out b_outLen b_inLen b_work b_doc re b_print := by
        intro v ev
        refine td_yemit hd (by omega) ev (fun re' hd' => nm_r (nI_1 _) ?_)
        refine ih (i + 1) _ re' (by omega) (by omega) (by rw [td_len1]; omega) hd' ?_
        rw [show max (i + 1) p = i + 1 from by omega]
        exact hp
      rcases hc with ⟨hx, hc⟩ | ⟨hx, hc⟩
      · exact br_t hx (next _ (by rw [hc]))
      · exact br_f hx (next _ (by rw [hc, td_10]))
theorem td_yemg {post : SY → Prop} {s G p e : Nat} {x : Int32} {c : Nat → Nat} {R : List Nat} {re : Nat → Int32} (hs : s < 4) (hG : td_SG inn g) (hY : td_SY inn g b_out b_outLen b_inLen) (hc : (x = 0 ∧ ∀ i, c i = td_gt (g s) i) ∨ (¬ x = 0 ∧ ∀ i, c i = 10 + i)) (hGb : G ≤ 41) (hpe : p ≤ e) (hen : e ≤ (g s).length) (hg : ∀ i, i < (g s).length → ((td_gt (g s) i < 10 ∧ td_ga (td_gt (g s)) i = G) ↔ (p ≤ i ∧ i < e))) (hl : R.length + (e - p) ≤ 80) (hd : td_dY R re) (hp : ∀ re', td_dY (R ++ td_rg c p (e - p)) re' → post (y_workIn, y_used, y_items, y_length, nI (R ++ td_rg c p (e - p)).length, y_printed, b_out, b_outLen, b_inLen, b_work, b_doc, re', b_print)) : wpY_emitGap post (y_workIn, y_used, y_items, y_length, nI R.length, y_printed, b_out, b_outLen, b_inLen, b_work, b_doc, re, b_print) (nI s) (nI G) x :=
  ⟨(g s).length + 1, td_yemg2 hs hG hY hc hGb hpe hen hg _ 0 R re (Nat.zero_le _) (by omega) (by rw [show max 0 p = p from by omega]; exact hl) hd (by rw [show max 0 p = p from by omega]; exact hp)⟩
/-! one gap of both, in order -/
def td_bo (fl : Int32) (R A B : List Nat) : List Nat := if fl = 0 then (R ++ B) ++ A else (R ++ A) ++ B
theorem td_bo_len {fl : Int32} {R A B : List Nat} : (td_bo fl R A B).length = R.length + A.length + B.length := by
  unfold td_bo
  split <;> simp only [List.length_append] <;> omega
theorem td_yboth {post : SY → Prop} {a b G pa ea pb eb : Nat} {fl : Int32} {R : List Nat} {re : Nat → Int32} (ha : a < 4) (hb : b < 4) (hG : td_SG inn g) (hY : td_SY inn g b_out b_outLen b_inLen) (hGb : G ≤ 41) (hpa : pa ≤ ea) (hea : ea ≤ (g a).length) (hga : ∀ i, i < (g a).length → ((td_gt (g a) i < 10 ∧ td_ga (td_gt (g a)) i = G) ↔ (pa ≤ i ∧ i < ea))) (hpb : pb ≤ eb) (heb : eb ≤ (g b).length) (hgb : ∀ i, i < (g b).length → ((td_gt (g b) i < 10 ∧ td_ga (td_gt (g b)) i = G) ↔ (pb ≤ i ∧ i < eb))) (hl : R.length + (ea - pa) + (eb - pb) ≤ 80) (hd : td_dY R re) (hp : ∀ re', td_dY (td_bo fl R (td_rg (td_gt (g a)) pa (ea - pa)) (td_rg (fun p => 10 + p) pb (eb - pb))) re' → post (y_workIn, y_used, y_items, y_length, nI (td_bo fl R (td_rg (td_gt (g a)) pa (ea - pa)) (td_rg (fun p => 10 + p) pb (eb - pb))).length, y_printed, b_out, b_outLen, b_inLen, b_work, b_doc, re', b_print)) : wpY_emitBoth post (y_workIn, y_used, y_items, y_length, nI R.length, y_printed, b_out, b_outLen, b_inLen, b_work, b_doc, re, b_print) (nI a) (nI b) (nI G) fl := by
  have la : ∀ R : List Nat, (R ++ td_rg (td_gt (g a)) pa (ea - pa)).length = R.length + (ea - pa) := fun R => by rw [List.length_append, td_rg_len]
  have lb : ∀ R : List Nat, (R ++ td_rg (fun p => 10 + p) pb (eb - pb)).length = R.length + (eb - pb) := fun R => by rw [List.length_append, td_rg_len]
  by_cases hf : fl = 0
  · unfold td_bo at hp
    rw [if_pos hf] at hp
    refine br_t hf ?_
    refine td_yemg hb hG hY (Or.inr ⟨td_10ne, fun i => rfl⟩) hGb hpb heb hgb (by omega) hd (fun re' hd' => br_t hf ?_)
    exact td_yemg ha hG hY (Or.inl ⟨rfl, fun i => rfl⟩) hGb hpa hea hga (by rw [lb]; omega) hd' hp
  · unfold td_bo at hp
    rw [if_neg hf] at hp
    refine br_f hf ?_
    refine td_yemg ha hG hY (Or.inl ⟨rfl, fun i => rfl⟩) hGb hpa hea hga (by omega) hd (fun re' hd' => ?_)
    refine td_yemg hb hG hY (Or.inr ⟨td_10ne, fun i => rfl⟩) hGb hpb heb hgb (by rw [la]; omega) hd' (fun re'' hd'' => br_f hf ?_)
    exact hp re'' hd''
end
end
section
section
variable {f_workIn f_workOut f_workUsed f_documentLength f_draftLength f_runCount : Int32} {a_slotItems a_slotIn a_slotOut a_workItems a_document a_draft a_draftDocument a_runKinds a_runLengths : Nat → Int32}
variable {y_workIn y_used y_items y_length y_size y_printed : Int32} {b_out b_outLen b_inLen b_work b_doc b_result b_print : Nat → Int32}
variable {inn : Nat → Nat} {g : Nat → List Nat}
/-! X: one gap -/
theorem td_x94 {post : SX → Prop} {J : Int32 → Int32 → Int32 → Int32 → Int32 → Int32 → Int32 → Int32 → Int32 → (Nat → Int32) → (Nat → Int32) → (Nat → Int32) → (Nat → Int32) → (Nat → Int32) → (Nat → Int32) → (Nat → Int32) → (Nat → Int32) → (Nat → Int32) → Prop} {a b fa fb G : Nat} {fl z0 z1 : Int32} {R : List Nat} {dr : Nat → Int32} (ha : a < 4) (hb : b < 4) (hG : td_SG inn g) (hX : td_SX inn g a_slotItems a_slotIn a_slotOut) (hfa : fa ≤ (g a).length) (hfb : fb ≤ (g b).length) (hz : z1 + z0 = nI fb) (hd : td_dX R dr) (hp : ∀ dr', td_dX (td_bo fl R (td_rg (td_gt (g a)) fa (td_e (g a) fa - fa)) (td_rg (fun p => 10 + p) fb (td_e (g b) fb - fb))) dr' → J (nI (td_e (g a) fa)) (nI (td_e (g b) fb)) (nI (G + 1)) f_workIn f_workOut f_workUsed f_documentLength (nI (min 41 (td_bo fl R (td_rg (td_gt (g a)) fa (td_e (g a) fa - fa)) (td_rg (fun p => 10 + p) fb (td_e (g b) fb - fb))).length)) f_runCount a_slotItems a_slotIn a_slotOut a_workItems a_document dr' a_draftDocument a_runKinds a_runLengths) : wX_draftCarried_94 post J (nI a) (nI b) fl (nI fa) (nI G) z0 z1 f_workIn f_workOut f_workUsed f_documentLength (nI (min 41 R.length)) f_runCount a_slotItems a_slotIn a_slotOut a_workItems a_document dr a_draftDocument a_runKinds a_runLengths := by
  obtain ⟨a1, a2, -, -⟩ := td_eP hfa
  obtain ⟨b1, b2, -, -⟩ := td_eP hfb
  have hL := (hG b hb).2.1
  refine nm_r hz (td_xend ha hG hX hfa (td_xend hb hG hX hfb ?_))
  by_cases hf : fl = 0
  · unfold td_bo at hp
    rw [if_pos hf] at hp
    refine br_t hf ?_
    refine td_xkept (by omega) b1 hd (fun dr' hd' => ?_)
    refine td_xnew ha hG hX a2 a1 hd' (fun dr'' hd'' => nm_r (nI_1 _) ?_)
    exact hp dr'' hd''
  · unfold td_bo at hp
    rw [if_neg hf] at hp
    refine br_f hf ?_
    refine td_xnew ha hG hX a2 a1 hd (fun dr' hd' => ?_)
    refine td_xkept (by omega) b1 hd' (fun dr'' hd'' => nm_r (nI_1 _) ?_)
    exact hp dr'' hd''
theorem td_x67 {post : SX → Prop} {J : Int32 → Int32 → Int32 → Int32 → Int32 → Int32 → Int32 → Int32 → Int32 → (Nat → Int32) → (Nat → Int32) → (Nat → Int32) → (Nat → Int32) → (Nat → Int32) → (Nat → Int32) → (Nat → Int32) → (Nat → Int32) → (Nat → Int32) → Prop} {a b pa pb fa fb G : Nat} {fl x7 x8 : Int32} {R : List Nat} {dr : Nat → Int32} (ha : a < 4) (hb : b < 4) (hG : td_SG inn g) (hX : td_SX inn g a_slotItems a_slotIn a_slotOut) (hfa : fa ≤ (g a).length) (hfb : fb ≤ (g b).length) (h7 : (x7 = 0 ∧ fa = pa) ∨ (¬ x7 = 0 ∧ fa = pa + 1)) (h8 : (x8 = 0 ∧ fb = pb) ∨ (¬ x8 = 0 ∧ fb = pb + 1)) (hd : td_dX R dr) (hp : ∀ dr', td_dX (td_bo fl R (td_rg (td_gt (g a)) fa (td_e (g a) fa - fa)) (td_rg (fun p => 10 + p) fb (td_e (g b) fb - fb))) dr' → J (nI (td_e (g a) fa)) (nI (td_e (g b) fb)) (nI (G + 1)) f_workIn f_workOut f_workUsed f_documentLength (nI (min 41 (td_bo fl R (td_rg (td_gt (g a)) fa (td_e (g a) fa - fa)) (td_rg (fun p => 10 + p) fb (td_e (g b) fb - fb))).length)) f_runCount a_slotItems a_slotIn a_slotOut a_workItems a_document dr' a_draftDocument a_runKinds a_runLengths) : wX_draftCarried_67 post J (nI a) (nI b) fl (nI pa) (nI pb) (nI G) x7 x8 f_workIn f_workOut f_workUsed f_documentLength (nI (min 41 R.length)) f_runCount a_slotItems a_slotIn a_slotOut a_workItems a_document dr a_draftDocument a_runKinds a_runLengths := by
  have e0 : ∀ n : Nat, nI n + 0 = nI n := fun n => Int32.add_zero _
  have step : ∀ z0 z1 : Int32, z1 + z0 = nI fa → wX_draftCarried_79 post J (nI a) (nI b) fl (nI pb) (nI G) x8 z0 z1 f_workIn f_workOut f_workUsed f_documentLength (nI (min 41 R.length)) f_runCount a_slotItems a_slotIn a_slotOut a_workItems a_document dr a_draftDocument a_runKinds a_runLengths := by
    intro z0 z1 hz
    refine nm_r hz ?_
    rcases h8 with ⟨h8, e8⟩ | ⟨h8, e8⟩
    · exact br_t h8 (td_x94 ha hb hG hX hfa hfb (by rw [e8, e0]) hd hp)
    · exact br_f h8 (td_x94 ha hb hG hX hfa hfb (by rw [e8, nI_1]) hd hp)
  rcases h7 with ⟨h7, e7⟩ | ⟨h7, e7⟩
  · exact br_t h7 (step _ _ (by rw [e7, e0]))
  · exact br_f h7 (step _ _ (by rw [e7, nI_1]))
end
/-- the place behind the kept item of place G, if it stands at p -/
def td_nx (L : List Nat) (G p : Nat) : Nat := if p < L.length ∧ td_gt L p = 10 + G then p + 1 else p
def td_rk (A B R : List Nat) (G pa pb : Nat) : List Nat := if (pa < A.length ∧ td_gt A pa = 10 + G) ∧ (pb < B.length ∧ td_gt B pb = 10 + G) then R ++ [10 + pb] else R
def td_nR (fl : Int32) (A B R : List Nat) (G pa pb : Nat) : List Nat := td_bo fl (td_rk A B R G pa pb) (td_rg (td_gt A) (td_nx A G pa) (td_e A (td_nx A G pa) - td_nx A G pa)) (td_rg (fun p => 10 + p) (td_nx B G pb) (td_e B (td_nx B G pb) - td_nx B G pb))
theorem td_nxBe {L : List Nat} {G p : Nat} (hi : td_inc (td_gt L) L.length) (h : td_At (td_gt L) L.length G p) : td_Be (td_gt L) L.length (G + 1) (td_nx L G p) := by
  unfold td_nx
  by_cases z : p < L.length ∧ td_gt L p = 10 + G
  · rw [if_pos z]; exact td_BeK hi h z.1 z.2
  · rw [if_neg z]; exact td_BeD hi h z
theorem td_nxAt {L : List Nat} {G p : Nat} (hi : td_inc (td_gt L) L.length) (h : td_At (td_gt L) L.length G p) : td_At (td_gt L) L.length (G + 1) (td_e L (td_nx L G p)) :=
  td_AtE (td_nxBe hi h) (td_eP (td_nxBe hi h).1)
theorem td_boW {fl : Int32} {R A B : List Nat} {fb eb : Nat} (h : td_wf fb R) (hA : ∀ (m : Nat) (R : List Nat), td_wf m R → td_wf m (R ++ A)) (hB : ∀ R, td_wf fb R → td_wf eb (R ++ B)) : td_wf eb (td_bo fl R A B) := by
  unfold td_bo
  split
  · exact hA _ _ (hB _ h)
  · exact hB _ (hA _ _ h)
theorem td_gapW {fl : Int32} {L B R : List Nat} {fa fb : Nat} (hfa : fa ≤ L.length) (hfb : fb ≤ B.length) (h : td_wf fb R) : td_wf (td_e B fb) (td_bo fl R (td_rg (td_gt L) fa (td_e L fa - fa)) (td_rg (fun p => 10 + p) fb (td_e B fb - fb))) := by
  obtain ⟨a1, a2, a3, a4⟩ := td_eP hfa
  obtain ⟨b1, b2, b3, b4⟩ := td_eP hfb
  refine td_boW h (fun m R hR => td_rg_wfN _ R fa hR (fun j h1 h2 => a3 j h1 (by omega))) (fun R hR => ?_)
  have := td_rg_wfK (td_e B fb - fb) R fb hR
  rw [show fb + (td_e B fb - fb) = td_e B fb from by omega] at this
  exact this
theorem td_nRw {fl : Int32} {A B R : List Nat} {G pa pb : Nat} (hiA : td_inc (td_gt A) A.length) (hiB : td_inc (td_gt B) B.length) (hA : td_At (td_gt A) A.length G pa) (hB : td_At (td_gt B) B.length G pb) (h : td_wf pb R) : td_wf (td_e B (td_nx B G pb)) (td_nR fl A B R G pa pb) := by
  refine td_gapW (td_nxBe hiA hA).1 (td_nxBe hiB hB).1 ?_
  unfold td_rk td_nx
  by_cases zb : pb < B.length ∧ td_gt B pb = 10 + G
  · rw [if_pos zb]
    by_cases za : pa < A.length ∧ td_gt A pa = 10 + G
    · rw [if_pos ⟨za, zb⟩]; exact td_wfK h (Nat.le_refl _)
    · rw [if_neg (fun z => za z.1)]; exact td_wfM h (by omega)
  · rw [if_neg zb, if_neg (fun z => zb z.2)]; exact h
theorem td_nRl {fl : Int32} {A B R : List Nat} {G pa pb : Nat} (hiA : td_inc (td_gt A) A.length) (hiB : td_inc (td_gt B) B.length) (hA : td_At (td_gt A) A.length G pa) (hB : td_At (td_gt B) B.length G pb) (h : R.length ≤ pa + pb) : (td_rk A B R G pa pb).length ≤ td_nx A G pa + td_nx B G pb ∧ (td_nR fl A B R G pa pb).length ≤ td_e A (td_nx A G pa) + td_e B (td_nx B G pb) := by
  have h1 : (td_rk A B R G pa pb).length ≤ td_nx A G pa + td_nx B G pb := by
    unfold td_rk td_nx
    by_cases zb : pb < B.length ∧ td_gt B pb = 10 + G
    · rw [if_pos zb]
      by_cases za : pa < A.length ∧ td_gt A pa = 10 + G
      · rw [if_pos ⟨za, zb⟩, if_pos za, td_len1]; omega
      · rw [if_neg (fun z => za z.1), if_neg za]; omega
    · rw [if_neg zb, if_neg (fun z => zb z.2)]
      by_cases za : pa < A.length ∧ td_gt A pa = 10 + G
      · rw [if_pos za]; omega
      · rw [if_neg za]; exact h
  refine ⟨h1, ?_⟩
  have h2 := (td_eP (td_nxBe hiA hA).1).1
  have h3 := (td_eP (td_nxBe hiB hB).1).1
  unfold td_nR
  rw [td_bo_len, td_rg_len, td_rg_len]
  omega
section
variable {f_workIn f_workOut f_workUsed f_documentLength f_draftLength f_runCount : Int32} {a_slotItems a_slotIn a_slotOut a_workItems a_document a_draft a_draftDocument a_runKinds a_runLengths : Nat → Int32}
variable {y_workIn y_used y_items y_length y_size y_printed : Int32} {b_out b_outLen b_inLen b_work b_doc b_result b_print : Nat → Int32}
variable {inn : Nat → Nat} {g : Nat → List Nat}
theorem td_xiter {post : SX → Prop} {a b G pa pb n m : Nat} {fl : Int32} {R : List Nat} {dr : Nat → Int32} (ha : a < 4) (hb : b < 4) (hG : td_SG inn g) (hX : td_SX inn g a_slotItems a_slotIn a_slotOut) (hm : inn a = m) (hGm : G < m) (hA : td_At (td_gt (g a)) (g a).length G pa) (hB : td_At (td_gt (g b)) (g b).length G pb) (hd : td_dX R dr) (hp : ∀ dr', td_dX (td_nR fl (g a) (g b) R G pa pb) dr' → wX_draftCarried_14 post (nI a) (nI b) fl n (nI (td_e (g a) (td_nx (g a) G pa))) (nI (td_e (g b) (td_nx (g b) G pb))) (nI (G + 1 + 1)) f_workIn f_workOut f_workUsed f_documentLength (nI (min 41 (td_nR fl (g a) (g b) R G pa pb).length)) f_runCount a_slotItems a_slotIn a_slotOut a_workItems a_document dr' a_draftDocument a_runKinds a_runLengths) : wX_draftCarried_14 post (nI a) (nI b) fl (n + 1) (nI pa) (nI pb) (nI (G + 1)) f_workIn f_workOut f_workUsed f_documentLength (nI (min 41 R.length)) f_runCount a_slotItems a_slotIn a_slotOut a_workItems a_document dr a_draftDocument a_runKinds a_runLengths := by
  have hm4 := (hG a ha).1
  have hiA : td_inc (td_gt (g a)) (g a).length := fun i j h1 h2 h3 => (hG a ha).2.2.2 i j h1 h2 h3
  have hiB : td_inc (td_gt (g b)) (g b).length := fun i j h1 h2 h3 => (hG b hb).2.2.2 i j h1 h2 h3
  have nA := (td_nxBe hiA hA).1
  have nB := (td_nxBe hiB hB).1
  refine ⟨td_s4 ha, pk_lt (inn a) (G + 1) (fun h => absurd h (by omega)) (fun h => ?_) (td_nX hX ha)⟩
  rw [nI_pred]
  unfold td_nR at hp
  refine td_xkn ha hG hX hA.1 (by omega) (fun kA => ?_) (fun kA => ?_)
  · have eA : td_nx (g a) G pa = pa + 1 := if_pos kA
    refine td_xkn hb hG hX hB.1 (by omega) (fun kB => ?_) (fun kB => ?_)
    · have eB : td_nx (g b) G pb = pb + 1 := if_pos kB
      have eR : td_rk (g a) (g b) R G pa pb = R ++ [10 + pb] := if_pos ⟨kA, kB⟩
      rw [eR] at hp
      refine br_f td_10ne (br_f td_10ne (td_xitem (t := 10 + pb) hd (by rw [td_cx10]) (fun dr' hd' => ?_)))
      exact td_x67 ha hb hG hX nA nB (Or.inr ⟨td_10ne, eA⟩) (Or.inr ⟨td_10ne, eB⟩) hd' hp
    · have eB : td_nx (g b) G pb = pb := if_neg kB
      have eR : td_rk (g a) (g b) R G pa pb = R := if_neg (fun z => kB z.2)
      rw [eR] at hp
      exact br_f td_10ne (br_t rfl (td_x67 ha hb hG hX nA nB (Or.inr ⟨td_10ne, eA⟩) (Or.inl ⟨rfl, eB⟩) hd hp))
  · have eA : td_nx (g a) G pa = pa := if_neg kA
    have eR : td_rk (g a) (g b) R G pa pb = R := if_neg (fun z => kA z.1)
    rw [eR] at hp
    refine td_xkn hb hG hX hB.1 (by omega) (fun kB => ?_) (fun kB => ?_)
    · have eB : td_nx (g b) G pb = pb + 1 := if_pos kB
      exact br_t rfl (td_x67 ha hb hG hX nA nB (Or.inl ⟨rfl, eA⟩) (Or.inr ⟨td_10ne, eB⟩) hd hp)
    · have eB : td_nx (g b) G pb = pb := if_neg kB
      exact br_t rfl (td_x67 ha hb hG hX nA nB (Or.inl ⟨rfl, eA⟩) (Or.inl ⟨rfl, eB⟩) hd hp)
theorem td_yiter {post : Int32 → SY → Prop} {a b to G pa pb n m : Nat} {fl x3 : Int32} {R : List Nat} {re : Nat → Int32} (ha : a < 4) (hb : b < 4) (hG : td_SG inn g) (hY : td_SY inn g b_out b_outLen b_inLen) (hf : (x3 = 0 ∧ fl = 0) ∨ (¬ x3 = 0 ∧ fl = 1)) (hm : inn a = m) (hGm : G < m) (hA : td_At (td_gt (g a)) (g a).length G pa) (hB : td_At (td_gt (g b)) (g b).length G pb) (hl : R.length ≤ pa + pb) (hd : td_dY R re) (hp : ∀ re', td_dY (td_nR fl (g a) (g b) R G pa pb) re' → wY_carry_69 post (nI a) (nI b) x3 (nI to) n (nI (G + 1)) y_workIn y_used y_items y_length (nI (td_nR fl (g a) (g b) R G pa pb).length) y_printed b_out b_outLen b_inLen b_work b_doc re' b_print) : wY_carry_69 post (nI a) (nI b) x3 (nI to) (n + 1) (nI G) y_workIn y_used y_items y_length (nI R.length) y_printed b_out b_outLen b_inLen b_work b_doc re b_print := by
  have hm4 := (hG a ha).1
  have hLa := (hG a ha).2.1
  have hLb := (hG b hb).2.1
  have hiA : td_inc (td_gt (g a)) (g a).length := fun i j h1 h2 h3 => (hG a ha).2.2.2 i j h1 h2 h3
  have hiB : td_inc (td_gt (g b)) (g b).length := fun i j h1 h2 h3 => (hG b hb).2.2.2 i j h1 h2 h3
  have nA := td_nxBe hiA hA
  have nB := td_nxBe hiB hB
  have eA := td_eP nA.1
  have eB := td_eP nB.1
  have gA := td_gap hiA nA eA
  have gB := td_gap hiB nB eB
  have hl2 := (td_nRl (fl := fl) hiA hiB hA hB hl).1
  have l1 := eA.1
  have l2 := eA.2.1
  have l3 := eB.1
  have l4 := eB.2.1
  have next : ∀ re', td_dY (td_rk (g a) (g b) R G pa pb) re' → wY_carry_113 post (wY_carry_69 post (nI a) (nI b) x3 (nI to) n) (nI a) (nI b) x3 (nI to) (nI G) y_workIn y_used y_items y_length (nI (td_rk (g a) (g b) R G pa pb).length) y_printed b_out b_outLen b_inLen b_work b_doc re' b_print := by
    intro re' hd'
    unfold td_nR at hp
    unfold wY_carry_113
    rw [nI_1]
    rcases hf with ⟨h3, hf⟩ | ⟨h3, hf⟩
    · refine br_t h3 ?_
      rw [hf] at hp
      exact td_yboth ha hb hG hY (by omega) l1 l2 gA l3 l4 gB (by omega) hd' (fun re'' hd'' => nm_r (nI_1 _) (hp re'' hd''))
    · refine br_f h3 ?_
      rw [hf] at hp
      exact td_yboth ha hb hG hY (by omega) l1 l2 gA l3 l4 gB (by omega) hd' (fun re'' hd'' => nm_r (nI_1 _) (hp re'' hd''))
  refine ⟨td_s4 ha, pk_le (inn a) G (fun h => absurd h (by omega)) (fun h => ?_) (td_nY hY ha)⟩
  have hA1 := hA.1
  have hB1 := hB.1
  by_cases kB : pb < (g b).length ∧ td_gt (g b) pb = 10 + G
  · refine td_yplK hb hG hY (by omega) kB.1 kB.2 (td_plK hiB hB kB.2) ?_
    by_cases kA : pa < (g a).length ∧ td_gt (g a) pa = 10 + G
    · refine td_yplK ha hG hY (by omega) kA.1 kA.2 (td_plK hiA hA kA.2) ?_
      have eR : td_rk (g a) (g b) R G pa pb = R ++ [10 + pb] := if_pos ⟨kA, kB⟩
      rw [eR] at next
      refine br_f (nI_pos (by omega)) (br_f (nI_pos (by omega)) ?_)
      exact td_yemit hd (by omega) (td_10 _) (fun re' hd' => next re' hd')
    · have eR : td_rk (g a) (g b) R G pa pb = R := if_neg (fun z => kA z.1)
      rw [eR] at next
      exact td_yplD ha hG hY (by omega) (td_plD hiA hA kA) (br_t td_m1neg (next re hd))
  · have eR : td_rk (g a) (g b) R G pa pb = R := if_neg (fun z => kB z.2)
    rw [eR] at next
    refine td_yplD hb hG hY (by omega) (td_plD hiB hB kB) ?_
    by_cases kA : pa < (g a).length ∧ td_gt (g a) pa = 10 + G
    · refine td_yplK ha hG hY (by omega) kA.1 kA.2 (td_plK hiA hA kA.2) ?_
      exact br_f (nI_pos (by omega)) (br_t td_m1neg (next re hd))
    · exact td_yplD ha hG hY (by omega) (td_plD hiA hA kA) (br_t td_m1neg (next re hd))
end
end
section
def td_M (fl : Int32) (A B : List Nat) : Nat → Nat → Nat → Nat → List Nat → List Nat
  | 0, _, _, _, R => R
  | d + 1, G, pa, pb, R => td_M fl A B d (G + 1) (td_e A (td_nx A G pa)) (td_e B (td_nx B G pb)) (td_nR fl A B R G pa pb)
theorem td_Mp {fl : Int32} {A B : List Nat} (hiA : td_inc (td_gt A) A.length) (hiB : td_inc (td_gt B) B.length) : ∀ d G pa pb R, td_At (td_gt A) A.length G pa → td_At (td_gt B) B.length G pb → td_wf pb R → R.length ≤ pa + pb → td_wf B.length (td_M fl A B d G pa pb R) ∧ (td_M fl A B d G pa pb R).length ≤ A.length + B.length := by
  intro d
  induction d with
  | zero =>
    intro G pa pb R hA hB hw hl
    have h1 := hA.1
    have h2 := hB.1
    exact ⟨td_wfM hw h2, by show R.length ≤ _; omega⟩
  | succ d ih =>
    intro G pa pb R hA hB hw hl
    exact ih _ _ _ _ (td_nxAt hiA hA) (td_nxAt hiB hB) (td_nRw hiA hiB hA hB hw) (td_nRl hiA hiB hA hB hl).2
def td_m0 (fl : Int32) (A B : List Nat) : List Nat := td_bo fl [] (td_rg (td_gt A) 0 (td_e A 0 - 0)) (td_rg (fun p => 10 + p) 0 (td_e B 0 - 0))
def td_mg (fl : Int32) (A B : List Nat) (m : Nat) : List Nat := td_M fl A B m 0 (td_e A 0) (td_e B 0) (td_m0 fl A B)
theorem td_At0 {L : List Nat} : td_At (td_gt L) L.length 0 (td_e L 0) := td_AtE (td_Be0 _ _) (td_eP (Nat.zero_le _))
theorem td_m0w {fl : Int32} {A B : List Nat} : td_wf (td_e B 0) (td_m0 fl A B) := td_gapW (Nat.zero_le _) (Nat.zero_le _) (td_wf0 _)
theorem td_m0l {fl : Int32} {A B : List Nat} : (td_m0 fl A B).length ≤ td_e A 0 + td_e B 0 := by
  unfold td_m0
  rw [td_bo_len, td_rg_len, td_rg_len]
  show 0 + _ + _ ≤ _
  omega
theorem td_mgp {fl : Int32} {A B : List Nat} {m : Nat} (hiA : td_inc (td_gt A) A.length) (hiB : td_inc (td_gt B) B.length) : td_wf B.length (td_mg fl A B m) ∧ (td_mg fl A B m).length ≤ A.length + B.length :=
  td_Mp hiA hiB m 0 _ _ _ td_At0 td_At0 td_m0w td_m0l
section
variable {f_workIn f_workOut f_workUsed f_documentLength f_draftLength f_runCount : Int32} {a_slotItems a_slotIn a_slotOut a_workItems a_document a_draft a_draftDocument a_runKinds a_runLengths : Nat → Int32}
variable {y_workIn y_used y_items y_length y_size y_printed : Int32} {b_out b_outLen b_inLen b_work b_doc b_result b_print : Nat → Int32}
variable {inn : Nat → Nat} {g : Nat → List Nat}
theorem td_xloop {post : SX → Prop} {a b m : Nat} {fl : Int32} (ha : a < 4) (hb : b < 4) (hG : td_SG inn g) (hX : td_SX inn g a_slotItems a_slotIn a_slotOut) (hm : inn a = m) : ∀ d G pa pb R dr, G + d = m → td_At (td_gt (g a)) (g a).length G pa → td_At (td_gt (g b)) (g b).length G pb → td_dX R dr → (∀ dr', td_dX (td_M fl (g a) (g b) d G pa pb R) dr' → post (f_workIn, f_workOut, f_workUsed, f_documentLength, nI (min 41 (td_M fl (g a) (g b) d G pa pb R).length), f_runCount, a_slotItems, a_slotIn, a_slotOut, a_workItems, a_document, dr', a_draftDocument, a_runKinds, a_runLengths)) → wX_draftCarried_14 post (nI a) (nI b) fl (d + 1) (nI pa) (nI pb) (nI (G + 1)) f_workIn f_workOut f_workUsed f_documentLength (nI (min 41 R.length)) f_runCount a_slotItems a_slotIn a_slotOut a_workItems a_document dr a_draftDocument a_runKinds a_runLengths := by
  have hm4 := (hG a ha).1
  have hiA : td_inc (td_gt (g a)) (g a).length := fun i j h1 h2 h3 => (hG a ha).2.2.2 i j h1 h2 h3
  have hiB : td_inc (td_gt (g b)) (g b).length := fun i j h1 h2 h3 => (hG b hb).2.2.2 i j h1 h2 h3
  intro d
  induction d with
  | zero =>
    intro G pa pb R dr hd0 hA hB hd hp
    exact ⟨td_s4 ha, pk_lt (inn a) (G + 1) (fun _ => hp dr hd) (fun z => absurd z (by omega)) (td_nX hX ha)⟩
  | succ d ih =>
    intro G pa pb R dr hd0 hA hB hd hp
    exact td_xiter ha hb hG hX hm (by omega) hA hB hd (fun dr' hd' => ih (G + 1) _ _ _ dr' (by omega) (td_nxAt hiA hA) (td_nxAt hiB hB) hd' hp)
theorem td_xit0 {post : SX → Prop} {a b n : Nat} {fl : Int32} {dr : Nat → Int32} (ha : a < 4) (hb : b < 4) (hG : td_SG inn g) (hX : td_SX inn g a_slotItems a_slotIn a_slotOut) (hp : ∀ dr', td_dX (td_m0 fl (g a) (g b)) dr' → wX_draftCarried_14 post (nI a) (nI b) fl n (nI (td_e (g a) 0)) (nI (td_e (g b) 0)) (nI (0 + 1)) f_workIn f_workOut f_workUsed f_documentLength (nI (min 41 (td_m0 fl (g a) (g b)).length)) f_runCount a_slotItems a_slotIn a_slotOut a_workItems a_document dr' a_draftDocument a_runKinds a_runLengths) : wX_draftCarried_14 post (nI a) (nI b) fl (n + 1) (nI 0) (nI 0) (nI 0) f_workIn f_workOut f_workUsed f_documentLength (nI (min 41 ([] : List Nat).length)) f_runCount a_slotItems a_slotIn a_slotOut a_workItems a_document dr a_draftDocument a_runKinds a_runLengths := by
  have hm4 := (hG a ha).1
  refine ⟨td_s4 ha, pk_lt (inn a) 0 (fun h => absurd h (Nat.not_lt_zero _)) (fun h => ?_) (td_nX hX ha)⟩
  refine td_xkn0 ha hG hX (Nat.zero_le _) td_0m1 (td_xkn0 hb hG hX (Nat.zero_le _) td_0m1 (br_t rfl ?_))
  exact td_x67 ha hb hG hX (Nat.zero_le _) (Nat.zero_le _) (Or.inl ⟨rfl, rfl⟩) (Or.inl ⟨rfl, rfl⟩) (td_dX0 _) hp
theorem td_xcarry {post : Int32 → SX → Prop} {a b to : Nat} {fl : Int32} (ha : a < 4) (hb : b < 4) (hto : to < 4) (hG : td_SG inn g) (hX : td_SX inn g a_slotItems a_slotIn a_slotOut) (h1 : (td_mg fl (g a) (g b) (inn a)).length ≤ 40 → ∀ dr si sn so, td_SX (td_uN inn to (g b).length) (td_uL g to (td_mg fl (g a) (g b) (inn a))) si sn so → post (nI (td_mg fl (g a) (g b) (inn a)).length) (f_workIn, f_workOut, f_workUsed, f_documentLength, nI (td_mg fl (g a) (g b) (inn a)).length, f_runCount, si, sn, so, a_workItems, a_document, dr, a_draftDocument, a_runKinds, a_runLengths)) (h2 : 40 < (td_mg fl (g a) (g b) (inn a)).length → ∀ d dr, post (-2) (f_workIn, f_workOut, f_workUsed, f_documentLength, d, f_runCount, a_slotItems, a_slotIn, a_slotOut, a_workItems, a_document, dr, a_draftDocument, a_runKinds, a_runLengths)) : wX_carry_54 post (nI b) (nI to) fl (nI b) (nI a) f_workIn f_workOut f_workUsed f_documentLength f_draftLength f_runCount a_slotItems a_slotIn a_slotOut a_workItems a_document a_draft a_draftDocument a_runKinds a_runLengths := by
  refine ⟨inn a + 1 + 1, td_xit0 ha hb hG hX (fun dr hd => ?_)⟩
  refine td_xloop ha hb hG hX rfl (inn a) 0 _ _ _ dr (by omega) td_At0 td_At0 hd (fun dr' hd' => ?_)
  refine pk_le (min 41 (td_mg fl (g a) (g b) (inn a)).length) 40 (fun h => ⟨td_s4 hb, ?_⟩) (fun h => h2 (by omega) _ _)
  rw [td_oX hX hb]
  exact td_xstore hto (by show (td_mg fl (g a) (g b) (inn a)).length ≤ 40; omega) hG hd' hX (fun si sn so hS => h1 (by omega) dr' si sn so hS)
theorem td_yloop {post : Int32 → SY → Prop} {a b to m : Nat} {fl x3 : Int32} (ha : a < 4) (hb : b < 4) (hto : to < 4) (hG : td_SG inn g) (hY : td_SY inn g b_out b_outLen b_inLen) (hf : (x3 = 0 ∧ fl = 0) ∨ (¬ x3 = 0 ∧ fl = 1)) (hm : inn a = m) : ∀ d G pa pb R re, G + d = m → td_At (td_gt (g a)) (g a).length G pa → td_At (td_gt (g b)) (g b).length G pb → td_wf pb R → R.length ≤ pa + pb → td_dY R re → ((td_M fl (g a) (g b) d G pa pb R).length ≤ 40 → ∀ re si so sn, td_SY (td_uN inn to (g b).length) (td_uL g to (td_M fl (g a) (g b) d G pa pb R)) si so sn → post (nI (td_M fl (g a) (g b) d G pa pb R).length) (y_workIn, y_used, y_items, y_length, nI (td_M fl (g a) (g b) d G pa pb R).length, y_printed, si, so, sn, b_work, b_doc, re, b_print)) → (40 < (td_M fl (g a) (g b) d G pa pb R).length → ∀ d re, post (-2) (y_workIn, y_used, y_items, y_length, d, y_printed, b_out, b_outLen, b_inLen, b_work, b_doc, re, b_print)) → wY_carry_69 post (nI a) (nI b) x3 (nI to) (d + 1) (nI G) y_workIn y_used y_items y_length (nI R.length) y_printed b_out b_outLen b_inLen b_work b_doc re b_print := by
  have hm4 := (hG a ha).1
  have hLa := (hG a ha).2.1
  have hLb := (hG b hb).2.1
  have hiA : td_inc (td_gt (g a)) (g a).length := fun i j h1 h2 h3 => (hG a ha).2.2.2 i j h1 h2 h3
  have hiB : td_inc (td_gt (g b)) (g b).length := fun i j h1 h2 h3 => (hG b hb).2.2.2 i j h1 h2 h3
  intro d
  induction d with
  | zero =>
    intro G pa pb R re hd0 hA hB hw hl hd h1 h2
    have l1 := hA.1
    have l2 := hB.1
    refine ⟨td_s4 ha, pk_le (inn a) G (fun _ => ?_) (fun z => absurd z (by omega)) (td_nY hY ha)⟩
    refine pk_le R.length 40 (fun h => ⟨td_s4 hb, ?_⟩) (fun h => h2 h _ _)
    rw [td_oY hY hb]
    exact td_yput hto h hG hd hY (fun si so sn hS => h1 h re si so sn hS)
  | succ d ih =>
    intro G pa pb R re hd0 hA hB hw hl hd h1 h2
    exact td_yiter ha hb hG hY hf hm (by omega) hA hB hl hd (fun re' hd' => ih (G + 1) _ _ _ re' (by omega) (td_nxAt hiA hA) (td_nxAt hiB hB) (td_nRw hiA hiB hA hB hw) (td_nRl hiA hiB hA hB hl).2 hd' h1 h2)
theorem td_ycarry {post : Int32 → SY → Prop} {a b to : Nat} {fl x3 : Int32} {re : Nat → Int32} (ha : a < 4) (hb : b < 4) (hto : to < 4) (hG : td_SG inn g) (hY : td_SY inn g b_out b_outLen b_inLen) (hf : (x3 = 0 ∧ fl = 0) ∨ (¬ x3 = 0 ∧ fl = 1)) (h1 : (td_mg fl (g a) (g b) (inn a)).length ≤ 40 → ∀ re si so sn, td_SY (td_uN inn to (g b).length) (td_uL g to (td_mg fl (g a) (g b) (inn a))) si so sn → post (nI (td_mg fl (g a) (g b) (inn a)).length) (y_workIn, y_used, y_items, y_length, nI (td_mg fl (g a) (g b) (inn a)).length, y_printed, si, so, sn, b_work, b_doc, re, b_print)) (h2 : 40 < (td_mg fl (g a) (g b) (inn a)).length → ∀ d re, post (-2) (y_workIn, y_used, y_items, y_length, d, y_printed, b_out, b_outLen, b_inLen, b_work, b_doc, re, b_print)) : wY_carry_63 post (nI a) (nI b) x3 (nI to) fl (nI 0) (nI b) (nI a) y_workIn y_used y_items y_length (nI ([] : List Nat).length) y_printed b_out b_outLen b_inLen b_work b_doc re b_print := by
  have hLa := (hG a ha).2.1
  have hLb := (hG b hb).2.1
  have hiA : td_inc (td_gt (g a)) (g a).length := fun i j h1 h2 h3 => (hG a ha).2.2.2 i j h1 h2 h3
  have hiB : td_inc (td_gt (g b)) (g b).length := fun i j h1 h2 h3 => (hG b hb).2.2.2 i j h1 h2 h3
  have eA := td_eP (L := g a) (p := 0) (Nat.zero_le _)
  have eB := td_eP (L := g b) (p := 0) (Nat.zero_le _)
  have gA := td_gap hiA (td_Be0 _ _) eA
  have gB := td_gap hiB (td_Be0 _ _) eB
  have l2 := eA.2.1
  have l4 := eB.2.1
  refine td_yboth ha hb hG hY (by omega) eA.1 eA.2.1 gA eB.1 eB.2.1 gB (by show 0 + _ + _ ≤ 80; omega) (td_dY0 _) (fun re' hd' => ⟨inn a + 1, ?_⟩)
  exact td_yloop ha hb hto hG hY hf rfl (inn a) 0 _ _ (td_m0 fl (g a) (g b)) re' (by omega) td_At0 td_At0 td_m0w td_m0l hd' h1 h2
end
theorem i_vc_carry {k : Nat} {u : SX} {v : SY} (I : i_Rel k u v) (hk : k + 5 ≤ 2560) (v1 : Int32) (v2 : Int32) (v3 : Int32) (v4 : Int32) : wpX_carry (fun r u' => wpY_carry (fun r' v' => r' = r ∧ i_Rel (k + 5) u' v') v v1 v2 v3 v4) u v1 v2 v3 v4 := by
  obtain ⟨f_workIn, f_workOut, f_workUsed, f_documentLength, f_draftLength, f_runCount, a_slotItems, a_slotIn, a_slotOut, a_workItems, a_document, a_draft, a_draftDocument, a_runKinds, a_runLengths⟩ := u
  obtain ⟨y_workIn, y_used, y_items, y_length, y_size, y_printed, b_out, b_outLen, b_inLen, b_work, b_doc, b_result, b_print⟩ := v
  have I2 := I
  obtain ⟨wi, us, wk, dc, inn, g, hK, hG, ⟨rfl, rfl, rfl, rfl, hX, hw, hd⟩, rfl, rfl, rfl, rfl, hY, hw2, hd2⟩ := I
  unfold wpX_carry wpY_carry
  rcases td_slot v1 with ⟨a, ha, rfl⟩ | ⟨hx, hy⟩
  · rcases td_slot v2 with ⟨b, hb, rfl⟩ | ⟨hx, hy⟩
    · rcases td_slot v4 with ⟨c, hc, rfl⟩ | ⟨hx, hy⟩
      · have b1 := (hG a ha).1
        have b2 := (hG b hb).1
        have b3 := (hG a ha).2.1
        have b4 := (hG b hb).2.1
        have hiA : td_inc (td_gt (g a)) (g a).length := fun i j h1 h2 h3 => (hG a ha).2.2.2 i j h1 h2 h3
        have hiB : td_inc (td_gt (g b)) (g b).length := fun i j h1 h2 h3 => (hG b hb).2.2.2 i j h1 h2 h3
        refine td_xs1 ha (br_f td_10ne (td_xs1 hb (br_f td_10ne (td_xs1 hc (br_f td_10ne ⟨td_s4 ha, td_s4 hb, pk_eq (inn a) (inn b) (fun e => ?_) (fun e => ?_) (td_nX hX ha) (td_nX hX hb)⟩)))))
        · by_cases h3 : v3 = 0
          · refine br_t h3 (td_xcarry ha hb hc hG hX (fun hl dr si sn so hS => ?_) (fun hl d dr => ?_))
            · refine td_ys1 ha (br_f td_10ne (td_ys1 hb (br_f td_10ne (td_ys1 hc (br_f td_10ne ⟨td_s4 ha, td_s4 hb, pk_eq (inn a) (inn b) (fun _ => br_t h3 ?_) (fun z => absurd e z) (td_nY hY ha) (td_nY hY hb)⟩)))))
              refine td_ycarry (fl := 0) ha hb hc hG hY (Or.inl ⟨h3, rfl⟩) (fun _ re ti tn to hT => ⟨rfl, ?_⟩) (fun z => absurd hl (by omega))
              exact td_mk hK (td_SGu hG b4 hl (td_mgp hiA hiB).1) hS hw hd hT hw2 hd2
            · refine td_ys1 ha (br_f td_10ne (td_ys1 hb (br_f td_10ne (td_ys1 hc (br_f td_10ne ⟨td_s4 ha, td_s4 hb, pk_eq (inn a) (inn b) (fun _ => br_t h3 ?_) (fun z => absurd e z) (td_nY hY ha) (td_nY hY hb)⟩)))))
              refine td_ycarry (fl := 0) ha hb hc hG hY (Or.inl ⟨h3, rfl⟩) (fun z => absurd hl (by omega)) (fun _ d re => ⟨rfl, ?_⟩)
              exact td_mk hK hG hX hw hd hY hw2 hd2
          · refine br_f h3 (td_xcarry ha hb hc hG hX (fun hl dr si sn so hS => ?_) (fun hl d dr => ?_))
            · refine td_ys1 ha (br_f td_10ne (td_ys1 hb (br_f td_10ne (td_ys1 hc (br_f td_10ne ⟨td_s4 ha, td_s4 hb, pk_eq (inn a) (inn b) (fun _ => br_f h3 ?_) (fun z => absurd e z) (td_nY hY ha) (td_nY hY hb)⟩)))))
              refine td_ycarry (fl := 1) ha hb hc hG hY (Or.inr ⟨h3, rfl⟩) (fun _ re ti tn to hT => ⟨rfl, ?_⟩) (fun z => absurd hl (by omega))
              exact td_mk hK (td_SGu hG b4 hl (td_mgp hiA hiB).1) hS hw hd hT hw2 hd2
            · refine td_ys1 ha (br_f td_10ne (td_ys1 hb (br_f td_10ne (td_ys1 hc (br_f td_10ne ⟨td_s4 ha, td_s4 hb, pk_eq (inn a) (inn b) (fun _ => br_f h3 ?_) (fun z => absurd e z) (td_nY hY ha) (td_nY hY hb)⟩)))))
              refine td_ycarry (fl := 1) ha hb hc hG hY (Or.inr ⟨h3, rfl⟩) (fun z => absurd hl (by omega)) (fun _ d re => ⟨rfl, ?_⟩)
              exact td_mk hK hG hX hw hd hY hw2 hd2
        · exact td_ys1 ha (br_f td_10ne (td_ys1 hb (br_f td_10ne (td_ys1 hc (br_f td_10ne ⟨td_s4 ha, td_s4 hb, pk_eq (inn a) (inn b) (fun z => absurd z e) (fun _ => ⟨rfl, I2⟩) (td_nY hY ha) (td_nY hY hb)⟩)))))
      · exact td_xs1 ha (br_f td_10ne (td_xs1 hb (br_f td_10ne (hx _ (br_t rfl (td_ys1 ha (br_f td_10ne (td_ys1 hb (br_f td_10ne (hy _ _ (br_t rfl ⟨rfl, I2⟩)))))))))))
    · exact td_xs1 ha (br_f td_10ne (hx _ (br_t rfl (td_ys1 ha (br_f td_10ne (hy _ _ (br_t rfl ⟨rfl, I2⟩)))))))
  · exact hx _ (br_t rfl (hy _ _ (br_t rfl ⟨rfl, I2⟩)))
end
section
/-! the way back -/
def td_W (L dc : List Nat) : Nat → Nat → Nat → List Nat → List Nat
  | 0, _, _, R => R
  | d + 1, G, p, R => if p < L.length ∧ td_gt L p = 10 + G then td_W L dc d (G + 1) (td_e L (p + 1)) (R ++ [10 + p]) else td_W L dc d (G + 1) p (R ++ [td_gt dc G])
theorem td_Wk {L dc R : List Nat} {d G p : Nat} (h : p < L.length ∧ td_gt L p = 10 + G) : td_W L dc (d + 1) G p R = td_W L dc d (G + 1) (td_e L (p + 1)) (R ++ [10 + p]) := if_pos h
theorem td_Wd {L dc R : List Nat} {d G p : Nat} (h : ¬ (p < L.length ∧ td_gt L p = 10 + G)) : td_W L dc (d + 1) G p R = td_W L dc d (G + 1) p (R ++ [td_gt dc G]) := if_neg h
theorem td_AtK {L : List Nat} {G p : Nat} (hi : td_inc (td_gt L) L.length) (h : td_At (td_gt L) L.length G p) (hk : p < L.length ∧ td_gt L p = 10 + G) : td_At (td_gt L) L.length (G + 1) (td_e L (p + 1)) := by
  have := td_nxAt hi h
  rw [show td_nx L G p = p + 1 from if_pos hk] at this
  exact this
theorem td_Wp {L dc : List Nat} (hi : td_inc (td_gt L) L.length) (hdc : ∀ i, i < dc.length → td_gt dc i < 10) : ∀ d G p R, G + d = dc.length → td_At (td_gt L) L.length G p → td_wf p R → td_wf L.length (td_W L dc d G p R) ∧ (td_W L dc d G p R).length = R.length + d := by
  intro d
  induction d with
  | zero => intro G p R h1 h2 h3; exact ⟨td_wfM h3 h2.1, rfl⟩
  | succ d ih =>
    intro G p R h1 h2 h3
    by_cases z : p < L.length ∧ td_gt L p = 10 + G
    · rw [td_Wk z]
      have e := (td_eP (L := L) (p := p + 1) (by omega)).1
      obtain ⟨i1, i2⟩ := ih (G + 1) _ (R ++ [10 + p]) (by omega) (td_AtK hi h2 z) (td_wfM (td_wfK h3 (Nat.le_refl _)) e)
      exact ⟨i1, by rw [i2, td_len1]; omega⟩
    · rw [td_Wd z]
      obtain ⟨i1, i2⟩ := ih (G + 1) p (R ++ [td_gt dc G]) (by omega) (td_AtD h2 z) (td_wfN h3 (hdc G (by omega)))
      exact ⟨i1, by rw [i2, td_len1]; omega⟩
section
variable {f_workIn f_workOut f_workUsed f_documentLength f_draftLength f_runCount : Int32} {a_slotItems a_slotIn a_slotOut a_workItems a_document a_draft a_draftDocument a_runKinds a_runLengths : Nat → Int32}
variable {y_workIn y_used y_items y_length y_size y_printed : Int32} {b_out b_outLen b_inLen b_work b_doc b_result b_print : Nat → Int32}
variable {inn : Nat → Nat} {g : Nat → List Nat}
theorem td_xway {post : SX → Prop} {s : Nat} {dc : List Nat} (hs : s < 4) (hG : td_SG inn g) (hX : td_SX inn g a_slotItems a_slotIn a_slotOut) (hm : dc.length = inn s) (hdd : td_dY dc a_document) (hdl : ∀ i, i < dc.length → td_gt dc i < 10) : ∀ d G p R dr, G + d = dc.length → td_At (td_gt (g s)) (g s).length G p → td_dX R dr → (∀ dr', td_dX (td_W (g s) dc d G p R) dr' → post (f_workIn, f_workOut, f_workUsed, nI dc.length, nI (min 41 (td_W (g s) dc d G p R).length), f_runCount, a_slotItems, a_slotIn, a_slotOut, a_workItems, a_document, dr', a_draftDocument, a_runKinds, a_runLengths)) → wX_draftWayBack_14 post (nI s) (d + 1) (nI p) (nI G) f_workIn f_workOut f_workUsed (nI dc.length) (nI (min 41 R.length)) f_runCount a_slotItems a_slotIn a_slotOut a_workItems a_document dr a_draftDocument a_runKinds a_runLengths := by
  have hm4 := (hG s hs).1
  have hi : td_inc (td_gt (g s)) (g s).length := fun i j h1 h2 h3 => (hG s hs).2.2.2 i j h1 h2 h3
  intro d
  induction d with
  | zero =>
    intro G p R dr h1 h2 hd hp
    exact pk_le dc.length G (fun _ => hp dr hd) (fun z => absurd z (by omega))
  | succ d ih =>
    intro G p R dr h1 h2 hd hp
    refine pk_le dc.length G (fun z => absurd z (by omega)) (fun _ => td_xkn hs hG hX h2.1 (by omega) (fun k => ?_) (fun k => ?_))
    · rw [td_Wk k] at hp
      refine br_f td_10ne (td_xitem (t := 10 + p) hd (by rw [td_cx10]) (fun dr' hd' => ?_))
      dsimp only
      rw [nI_1 p]
      exact td_xend hs hG hX (by omega) (nm_r (nI_1 _) (ih (G + 1) _ _ dr' (by omega) (td_AtK hi h2 k) hd' hp))
    · rw [td_Wd k] at hp
      refine br_t rfl ⟨vp_in_nI (by omega) (by decide), td_xitem (t := td_gt dc G) hd ?_ (fun dr' hd' => nm_r (nI_1 _) (ih (G + 1) _ _ dr' (by omega) (td_AtD h2 k) hd' hp))⟩
      rw [nI_clamp (by omega), hdd G (by omega), td_100, td_cxN (hdl G (by omega))]
theorem td_xch2 {post : SX → Prop} {N : List Nat} (hN : N.length ≤ 40) (hdd : td_dY N a_draftDocument) (hp : ∀ da, td_dY N da → post (f_workIn, f_workOut, f_workUsed, nI N.length, f_draftLength, f_runCount, a_slotItems, a_slotIn, a_slotOut, a_workItems, da, a_draft, a_draftDocument, a_runKinds, a_runLengths)) : ∀ n i da, i ≤ N.length → N.length - i < n → (∀ j, j < i → da j = nI (td_gt N j)) → wX_changeDocument_68 post f_workIn f_workOut f_workUsed (nI N.length) f_draftLength f_runCount n (nI i) a_slotItems a_slotIn a_slotOut a_workItems da a_draft a_draftDocument a_runKinds a_runLengths := by
  intro n
  induction n with
  | zero => intro i da _ h; exact absurd h (Nat.not_lt_zero _)
  | succ n ih =>
    intro i da hi hn he
    refine pk_le N.length i (fun h => hp da (fun j hj => he j (by omega))) (fun h => ⟨vp_in_nI (by omega) (by decide), vp_in_nI (by omega) (by decide), nm_r (e' := upd da i (nI (td_gt N i))) (by rw [nI_clamp (by omega), hdd i h]) (nm_r (nI_1 _) (ih (i + 1) _ (by omega) (by omega) (fun j hj => ?_)))⟩)
    by_cases z : j = i
    · subst z; rw [pk_us]
    · rw [pk_un z]; exact he j (by omega)
theorem td_xch1 {post : SX → Prop} {s : Nat} {dc : List Nat} (hs : s < 4) (hG : td_SG inn g) (hX : td_SX inn g a_slotItems a_slotIn a_slotOut) (hm : dc.length = inn s) (hdd : td_dY dc a_document) (hp : ∀ da dd, td_dY ((g s).map (td_jn dc)) da → post (f_workIn, f_workOut, f_workUsed, nI (g s).length, f_draftLength, f_runCount, a_slotItems, a_slotIn, a_slotOut, a_workItems, da, a_draft, dd, a_runKinds, a_runLengths)) : ∀ n i dd, i ≤ (g s).length → (g s).length - i < n → td_dY (((g s).take i).map (td_jn dc)) dd → wX_changeDocument_2 post (nI s) f_workIn f_workOut f_workUsed (nI dc.length) f_draftLength f_runCount n (nI i) a_slotItems a_slotIn a_slotOut a_workItems a_document a_draft dd a_runKinds a_runLengths := by
  have hm4 := (hG s hs).1
  have hL := (hG s hs).2.1
  intro n
  induction n with
  | zero => intro i dd _ h; exact absurd h (Nat.not_lt_zero _)
  | succ n ih =>
    intro i dd hi hn hd
    refine ⟨td_s4 hs, pk_le (g s).length i (fun h => ⟨td_s4 hs, nm_r (td_oX hX hs) ⟨(g s).length + 1, ?_⟩⟩) (fun h => ⟨td_cI hG hs h, nm_r (td_cX hX hG hs h) ?_⟩) (td_oX hX hs)⟩
    · rw [show i = (g s).length from by omega, List.take_length] at hd
      have hl : ((g s).map (td_jn dc)).length = (g s).length := List.length_map _
      have := td_xch2 (post := post) (N := (g s).map (td_jn dc)) (a_draftDocument := dd) (by omega) hd (fun da hda => by rw [hl]; exact hp da dd hda) ((g s).length + 1) 0 a_document (Nat.zero_le _) (by omega) (fun j hj => absurd hj (Nat.not_lt_zero _))
      rw [hl] at this
      exact this
    · have h60 := td_g60 hG hs h
      have hwf := (hG s hs).2.2.1 i h
      have hz : (((g s).take i).map (td_jn dc)).length = i := by rw [List.length_map, List.length_take]; omega
      have next : ∀ x, x = nI (td_jn dc (td_gt (g s) i)) → wX_changeDocument_2 post (nI s) f_workIn f_workOut f_workUsed (nI dc.length) f_draftLength f_runCount n (nI (i + 1)) a_slotItems a_slotIn a_slotOut a_workItems a_document a_draft (upd dd i x) a_runKinds a_runLengths := by
        intro x ex
        rw [ex]
        refine ih (i + 1) _ (by omega) (by omega) ?_
        have := td_dYp (t := td_jn dc (td_gt (g s) i)) hd
        rw [hz, ← td_takeM h] at this
        exact this
      by_cases z : td_gt (g s) i < 10
      · refine td_xn1 z (br_f td_10ne ⟨vp_in_nI (by omega) (by decide), nm_r (e' := upd dd i (nI (td_jn dc (td_gt (g s) i)))) ?_ (nm_r (nI_1 _) (next _ rfl))⟩)
        rw [nI_clamp (by omega), td_cxN z, td_s100 (by omega), td_jn, if_pos z, show 100 + td_gt (g s) i - 100 = td_gt (g s) i from by omega]
      · refine td_xn0 (by omega) (by omega) (br_t rfl ?_)
        rw [td_cxK (by omega)]
        refine ⟨vp_in_nI (by omega) (by decide), vp_in_nI (by omega) (by decide), nm_r (e' := upd dd i (nI (td_jn dc (td_gt (g s) i)))) ?_ (nm_r (nI_1 _) (next _ rfl))⟩
        rw [nI_clamp (by omega), nI_clamp (by omega), hdd _ (by omega), td_jn, if_neg z]
theorem td_xwb {post : SX → Prop} {s : Nat} {dc : List Nat} (hs : s < 4) (hG : td_SG inn g) (hX : td_SX inn g a_slotItems a_slotIn a_slotOut) (hm : dc.length = inn s) (hdd : td_dY dc a_document) (hdl : ∀ i, i < dc.length → td_gt dc i < 10) (hp : ∀ dr, td_dX (td_W (g s) dc dc.length 0 (td_e (g s) 0) []) dr → post (f_workIn, f_workOut, f_workUsed, nI dc.length, nI (min 41 (td_W (g s) dc dc.length 0 (td_e (g s) 0) []).length), f_runCount, a_slotItems, a_slotIn, a_slotOut, a_workItems, a_document, dr, a_draftDocument, a_runKinds, a_runLengths)) : wpX_draftWayBack post (f_workIn, f_workOut, f_workUsed, nI dc.length, f_draftLength, f_runCount, a_slotItems, a_slotIn, a_slotOut, a_workItems, a_document, a_draft, a_draftDocument, a_runKinds, a_runLengths) (nI s) := by
  unfold wpX_draftWayBack
  refine td_xend (i := 0) hs hG hX (Nat.zero_le _) ⟨dc.length + 1, ?_⟩
  exact td_xway hs hG hX hm hdd hdl dc.length 0 _ [] _ (by omega) td_At0 (td_dX0 _) hp
theorem td_xchg {post : SX → Prop} {s : Nat} {dc : List Nat} (hs : s < 4) (hG : td_SG inn g) (hX : td_SX inn g a_slotItems a_slotIn a_slotOut) (hm : dc.length = inn s) (hdd : td_dY dc a_document) (hp : ∀ da dd, td_dY ((g s).map (td_jn dc)) da → post (f_workIn, f_workOut, f_workUsed, nI (g s).length, f_draftLength, f_runCount, a_slotItems, a_slotIn, a_slotOut, a_workItems, da, a_draft, dd, a_runKinds, a_runLengths)) : wpX_changeDocument post (f_workIn, f_workOut, f_workUsed, nI dc.length, f_draftLength, f_runCount, a_slotItems, a_slotIn, a_slotOut, a_workItems, a_document, a_draft, a_draftDocument, a_runKinds, a_runLengths) (nI s) :=
  ⟨(g s).length + 1, td_xch1 hs hG hX hm hdd hp _ 0 _ (Nat.zero_le _) (by omega) (td_dY0 _)⟩
theorem td_yap3 {post : Int32 → SY → Prop} {to : Nat} {R N : List Nat} (hto : to < 4) (hR : R.length ≤ 40) (hN : N.length ≤ 40) (hG : td_SG inn g) (hY : td_SY inn g b_out b_outLen b_inLen) (hd : td_dY R b_result) (hpr : td_dY N b_print) (hp : ∀ si so sn da, td_SY (td_uN inn to N.length) (td_uL g to R) si so sn → td_dY N da → post (nI N.length) (y_workIn, y_used, y_items, nI N.length, nI R.length, y_printed, si, so, sn, b_work, da, b_result, b_print)) : ∀ n i da, i ≤ N.length → N.length - i < n → (∀ j, j < i → da j = nI (td_gt N j)) → wY_apply_154 post (nI to) (nI N.length) y_workIn y_used y_items y_length (nI R.length) y_printed n (nI i) b_out b_outLen b_inLen b_work da b_result b_print := by
  intro n
  induction n with
  | zero => intro i da _ h; exact absurd h (Nat.not_lt_zero _)
  | succ n ih =>
    intro i da hi hn he
    refine pk_le N.length i (fun h => ?_) (fun h => ⟨vp_in_nI (by omega) (by decide), vp_in_nI (by omega) (by decide), nm_r (e' := upd da i (nI (td_gt N i))) (by rw [nI_clamp (by omega), hpr i h]) (nm_r (nI_1 _) (ih (i + 1) _ (by omega) (by omega) (fun j hj => ?_)))⟩)
    · exact td_yput hto hR hG hd hY (fun si so sn hS => hp si so sn da hS (fun j hj => he j (by omega)))
    · by_cases z : j = i
      · subst z; rw [pk_us]
      · rw [pk_un z]; exact he j (by omega)
theorem td_yap2 {post : Int32 → SY → Prop} {s to : Nat} {R dc : List Nat} (hs : s < 4) (hto : to < 4) (hR : R.length ≤ 40) (hG : td_SG inn g) (hY : td_SY inn g b_out b_outLen b_inLen) (hm : dc.length = inn s) (hdd : td_dY dc b_doc) (hd : td_dY R b_result) (hp : ∀ si so sn da pr, td_SY (td_uN inn to (g s).length) (td_uL g to R) si so sn → td_dY ((g s).map (td_jn dc)) da → post (nI (g s).length) (y_workIn, y_used, y_items, nI (g s).length, nI R.length, y_printed, si, so, sn, b_work, da, b_result, pr)) : ∀ n i pr, i ≤ (g s).length → (g s).length - i < n → td_dY (((g s).take i).map (td_jn dc)) pr → wY_apply_96 post (nI s) (nI to) (nI (g s).length) y_workIn y_used y_items y_length (nI R.length) y_printed n (nI i) b_out b_outLen b_inLen b_work b_doc b_result pr := by
  have hm4 := (hG s hs).1
  have hL := (hG s hs).2.1
  intro n
  induction n with
  | zero => intro i pr _ h; exact absurd h (Nat.not_lt_zero _)
  | succ n ih =>
    intro i pr hi hn hpr
    refine pk_le (g s).length i (fun h => ⟨(g s).length + 1, ?_⟩) (fun h => ⟨td_cI hG hs h, nm_r (td_cY hY hG hs h) ?_⟩)
    · rw [show i = (g s).length from by omega, List.take_length] at hpr
      have hl : ((g s).map (td_jn dc)).length = (g s).length := List.length_map _
      have := td_yap3 (post := post) (to := to) (R := R) (N := (g s).map (td_jn dc)) (b_print := pr) (y_workIn := y_workIn) (y_used := y_used) (y_items := y_items) (y_length := y_length) (y_printed := y_printed) (b_work := b_work) hto hR (by omega) hG hY hd hpr (fun si so sn da hS hda => by rw [hl] at hS ⊢; exact hp si so sn da pr hS hda) ((g s).length + 1) 0 b_doc (Nat.zero_le _) (by omega) (fun j hj => absurd hj (Nat.not_lt_zero _))
      rw [hl] at this
      exact this
    · have h60 := td_g60 hG hs h
      have hwf := (hG s hs).2.2.1 i h
      have hz : (((g s).take i).map (td_jn dc)).length = i := by rw [List.length_map, List.length_take]; omega
      have next : ∀ x, x = nI (td_jn dc (td_gt (g s) i)) → wY_apply_96 post (nI s) (nI to) (nI (g s).length) y_workIn y_used y_items y_length (nI R.length) y_printed n (nI (i + 1)) b_out b_outLen b_inLen b_work b_doc b_result (upd pr i x) := by
        intro x ex
        rw [ex]
        refine ih (i + 1) _ (by omega) (by omega) ?_
        have := td_dYp (t := td_jn dc (td_gt (g s) i)) hpr
        rw [hz, ← td_takeM h] at this
        exact this
      refine pk_le 10 (td_gt (g s) i) (fun z => ?_) (fun z => ⟨vp_in_nI (by omega) (by decide), nm_r (e' := upd pr i (nI (td_jn dc (td_gt (g s) i)))) ?_ (nm_r (nI_1 _) (next _ rfl))⟩)
      · refine ⟨pk_in (td_gt (g s) i - 10) 40 (by omega) (td_s10 z), vp_in_nI (by omega) (by decide), nm_r (e' := upd pr i (nI (td_jn dc (td_gt (g s) i)))) ?_ (nm_r (nI_1 _) (next _ rfl))⟩
        rw [nI_clamp (by omega), td_s10 z, nI_clamp (by omega), hdd _ (by omega), td_jn, if_neg (by omega)]
      · rw [nI_clamp (by omega), td_jn, if_pos z]
theorem td_yap1 {post : Int32 → SY → Prop} {s to : Nat} {dc : List Nat} (hs : s < 4) (hto : to < 4) (hG : td_SG inn g) (hY : td_SY inn g b_out b_outLen b_inLen) (hm : dc.length = inn s) (hdd : td_dY dc b_doc) (hdl : ∀ i, i < dc.length → td_gt dc i < 10) : ∀ d G p R re, G + d = dc.length → R.length = G → td_At (td_gt (g s)) (g s).length G p → td_dY R re → (∀ re si so sn da pr, td_SY (td_uN inn to (g s).length) (td_uL g to (td_W (g s) dc d G p R)) si so sn → td_dY ((g s).map (td_jn dc)) da → post (nI (g s).length) (y_workIn, y_used, y_items, nI (g s).length, nI (td_W (g s) dc d G p R).length, y_printed, si, so, sn, b_work, da, re, pr)) → wY_apply_41 post (nI s) (nI to) (d + 1) (nI G) y_workIn y_used y_items (nI dc.length) (nI R.length) y_printed b_out b_outLen b_inLen b_work b_doc re b_print := by
  have hm4 := (hG s hs).1
  have hi : td_inc (td_gt (g s)) (g s).length := fun i j h1 h2 h3 => (hG s hs).2.2.2 i j h1 h2 h3
  have hL := (hG s hs).2.1
  intro d
  induction d with
  | zero =>
    intro G p R re h1 hl h2 hd hp
    refine pk_le dc.length G (fun _ => ⟨td_s4 hs, nm_r (td_oY hY hs) ⟨(g s).length + 1, ?_⟩⟩) (fun z => absurd z (by omega))
    exact td_yap2 hs hto (by omega) hG hY hm hdd hd (fun si so sn da pr hS hda => hp re si so sn da pr hS hda) _ 0 _ (Nat.zero_le _) (by omega) (td_dY0 _)
  | succ d ih =>
    intro G p R re h1 hl h2 hd hp
    have hp1 := h2.1
    refine pk_le dc.length G (fun z => absurd z (by omega)) (fun _ => ?_)
    by_cases k : p < (g s).length ∧ td_gt (g s) p = 10 + G
    · rw [td_Wk k] at hp
      refine td_yplK hs hG hY (by omega) k.1 k.2 (td_plK hi h2 k.2) (br_f (nI_pos (by omega)) ?_)
      exact td_yemit hd (by omega) (td_10 _) (fun re' hd' => nm_r (nI_1 _) (ih (G + 1) _ _ re' (by omega) (by rw [td_len1]; omega) (td_AtK hi h2 k) hd' hp))
    · rw [td_Wd k] at hp
      refine td_yplD hs hG hY (by omega) (td_plD hi h2 k) (br_t td_m1neg ⟨vp_in_nI (by omega) (by decide), ?_⟩)
      refine td_yemit (t := td_gt dc G) hd (by omega) ?_ (fun re' hd' => nm_r (nI_1 _) (ih (G + 1) _ _ re' (by omega) (by rw [td_len1]; omega) (td_AtD h2 k) hd' hp))
      rw [nI_clamp (by omega), hdd G (by omega)]
end
theorem i_vc_apply {k : Nat} {u : SX} {v : SY} (I : i_Rel k u v) (hk : k + 5 ≤ 2560) (v1 : Int32) (v2 : Int32) : wpX_apply (fun r u' => wpY_apply (fun r' v' => r' = r ∧ i_Rel (k + 5) u' v') v v1 v2) u v1 v2 := by
  obtain ⟨f_workIn, f_workOut, f_workUsed, f_documentLength, f_draftLength, f_runCount, a_slotItems, a_slotIn, a_slotOut, a_workItems, a_document, a_draft, a_draftDocument, a_runKinds, a_runLengths⟩ := u
  obtain ⟨y_workIn, y_used, y_items, y_length, y_size, y_printed, b_out, b_outLen, b_inLen, b_work, b_doc, b_result, b_print⟩ := v
  have I2 := I
  obtain ⟨wi, us, wk, dc, inn, g, hK, hG, ⟨rfl, rfl, rfl, rfl, hX, hw, hd⟩, rfl, rfl, rfl, rfl, hY, hw2, hd2⟩ := I
  obtain ⟨k1, k2, k3, k4, k5, k6⟩ := hK
  unfold wpX_apply wpY_apply
  rcases td_slot v1 with ⟨s, hs, rfl⟩ | ⟨hx, hy⟩
  · rcases td_slot v2 with ⟨c, hc, rfl⟩ | ⟨hx, hy⟩
    · have b1 := (hG s hs).1
      have b2 := (hG s hs).2.1
      have hi : td_inc (td_gt (g s)) (g s).length := fun i j h1 h2 h3 => (hG s hs).2.2.2 i j h1 h2 h3
      refine td_xs1 hs (br_f td_10ne (td_xs1 hc (br_f td_10ne ⟨td_s4 hs, pk_eq dc.length (inn s) (fun e => ⟨td_s4 hs, nm_r (td_oX hX hs) ?_⟩) (fun e => ?_) rfl (td_nX hX hs)⟩)))
      · obtain ⟨w1, w2⟩ := td_Wp hi k6 dc.length 0 (td_e (g s) 0) [] (by omega) td_At0 (td_wf0 _)
        have w3 : (td_W (g s) dc dc.length 0 (td_e (g s) 0) []).length = dc.length := by rw [w2]; exact Nat.zero_add _
        refine td_xwb hs hG hX e hd k6 (fun dr hdr => ?_)
        refine td_xchg hs hG hX e hd (fun da dd hda => ?_)
        refine td_xstore hc (by omega) hG hdr hX (fun si sn so hS => ?_)
        refine td_ys1 hs (br_f td_10ne (td_ys1 hc (br_f td_10ne ⟨td_s4 hs, pk_eq dc.length (inn s) (fun _ => ⟨dc.length + 1, ?_⟩) (fun z => absurd e z) rfl (td_nY hY hs)⟩)))
        refine td_yap1 hs hc hG hY e hd2 k6 dc.length 0 (td_e (g s) 0) [] _ (by omega) rfl td_At0 (td_dY0 _) (fun re ti tn to db pr hT hdb => ⟨rfl, ?_⟩)
        have hl : ((g s).map (td_jn dc)).length = (g s).length := List.length_map _
        rw [← hl] at hS hT ⊢
        refine td_mk ⟨k1, k2, k3, k4, by omega, fun i hi2 => ?_⟩ (td_SGu hG (by omega) (by omega) (by rw [hl]; exact w1)) hS hw hda hT hw2 hdb
        rw [hl] at hi2
        have hwf := (hG s hs).2.2.1 i hi2
        rw [td_gt_map hi2]
        unfold td_jn
        split
        · assumption
        · exact k6 _ (by omega)
      · exact td_ys1 hs (br_f td_10ne (td_ys1 hc (br_f td_10ne ⟨td_s4 hs, pk_eq dc.length (inn s) (fun z => absurd z e) (fun _ => ⟨rfl, I2⟩) rfl (td_nY hY hs)⟩)))
    · exact td_xs1 hs (br_f td_10ne (hx _ (br_t rfl (td_ys1 hs (br_f td_10ne (hy _ _ (br_t rfl ⟨rfl, I2⟩)))))))
  · exact hx _ (br_t rfl (hy _ _ (br_t rfl ⟨rfl, I2⟩)))
end
section
/-! steps told as runs: how many, their kinds, their lengths -/
def td_cc (st : Nat → Nat) : Nat → Nat × (Nat → Nat) × (Nat → Nat)
  | 0 => (0, fun _ => 0, fun _ => 0)
  | p + 1 => if 0 < p ∧ st p = st (p - 1) then ((td_cc st p).1, (td_cc st p).2.1, fun j => if j = (td_cc st p).1 - 1 then (td_cc st p).2.2 j + 1 else (td_cc st p).2.2 j) else ((td_cc st p).1 + 1, (fun j => if j = (td_cc st p).1 then st p else (td_cc st p).2.1 j), fun j => if j = (td_cc st p).1 then 1 else (td_cc st p).2.2 j)
theorem td_ccS {st : Nat → Nat} {p : Nat} (h : 0 < p ∧ st p = st (p - 1)) : td_cc st (p + 1) = ((td_cc st p).1, (td_cc st p).2.1, fun j => if j = (td_cc st p).1 - 1 then (td_cc st p).2.2 j + 1 else (td_cc st p).2.2 j) := if_pos h
theorem td_ccN {st : Nat → Nat} {p : Nat} (h : ¬ (0 < p ∧ st p = st (p - 1))) : td_cc st (p + 1) = ((td_cc st p).1 + 1, (fun j => if j = (td_cc st p).1 then st p else (td_cc st p).2.1 j), fun j => if j = (td_cc st p).1 then 1 else (td_cc st p).2.2 j) := if_neg h
theorem td_ccE {st st' : Nat → Nat} : ∀ p, (∀ i, i < p → st i = st' i) → td_cc st p = td_cc st' p := by
  intro p
  induction p with
  | zero => intro _; rfl
  | succ p ih =>
    intro h
    have e := ih (fun i hi => h i (by omega))
    have e1 := h p (by omega)
    by_cases z : 0 < p ∧ st p = st (p - 1)
    · have e2 := h (p - 1) (by omega)
      rw [td_ccS z, td_ccS (by rw [← e1, ← e2]; exact z), e]
    · have z2 : ¬ (0 < p ∧ st' p = st' (p - 1)) := by
        intro w
        have e2 := h (p - 1) (by omega)
        rw [← e1, ← e2] at w
        exact z w
      rw [td_ccN z, td_ccN z2, e, e1]
theorem td_ccP {st : Nat → Nat} : ∀ p, (∀ i, i < p → st i < 10) → (td_cc st p).1 ≤ p ∧ (0 < p → 0 < (td_cc st p).1 ∧ (td_cc st p).2.1 ((td_cc st p).1 - 1) = st (p - 1)) ∧ ∀ j, j < (td_cc st p).1 → (td_cc st p).2.1 j < 10 ∧ 1 ≤ (td_cc st p).2.2 j ∧ (td_cc st p).2.2 j ≤ p := by
  intro p
  induction p with
  | zero => intro _; exact ⟨Nat.le_refl _, fun h => absurd h (Nat.not_lt_zero _), fun j h => absurd h (Nat.not_lt_zero _)⟩
  | succ p ih =>
    intro h
    obtain ⟨i1, i2, i3⟩ := ih (fun i hi => h i (by omega))
    have hp := h p (by omega)
    by_cases z : 0 < p ∧ st p = st (p - 1)
    · obtain ⟨j1, j2⟩ := i2 z.1
      rw [td_ccS z]
      refine ⟨by show (td_cc st p).1 ≤ p + 1; omega, fun _ => ⟨j1, ?_⟩, fun j hj => ?_⟩
      · show (td_cc st p).2.1 ((td_cc st p).1 - 1) = st p
        rw [j2, z.2]
      · obtain ⟨k1, k2, k3⟩ := i3 j hj
        refine ⟨k1, ?_⟩
        show 1 ≤ (if j = (td_cc st p).1 - 1 then (td_cc st p).2.2 j + 1 else (td_cc st p).2.2 j) ∧ (if j = (td_cc st p).1 - 1 then (td_cc st p).2.2 j + 1 else (td_cc st p).2.2 j) ≤ p + 1
        split <;> omega
    · rw [td_ccN z]
      refine ⟨by show (td_cc st p).1 + 1 ≤ p + 1; omega, fun _ => ⟨Nat.succ_pos _, ?_⟩, fun j hj => ?_⟩
      · show (if (td_cc st p).1 + 1 - 1 = (td_cc st p).1 then st p else (td_cc st p).2.1 ((td_cc st p).1 + 1 - 1)) = st p
        exact if_pos (Nat.add_sub_cancel _ _)
      · have hj2 : j < (td_cc st p).1 + 1 := hj
        show (if j = (td_cc st p).1 then st p else (td_cc st p).2.1 j) < 10 ∧ 1 ≤ (if j = (td_cc st p).1 then 1 else (td_cc st p).2.2 j) ∧ (if j = (td_cc st p).1 then 1 else (td_cc st p).2.2 j) ≤ p + 1
        by_cases y : j = (td_cc st p).1
        · rw [if_pos y, if_pos y]; omega
        · rw [if_neg y, if_neg y]
          obtain ⟨k1, k2, k3⟩ := i3 j (by omega)
          exact ⟨k1, k2, by omega⟩
def td_sm (R : List Nat) : Prop := ∀ i, i < R.length → td_gt R i < 10
theorem td_smp {R : List Nat} {k : Nat} (h : td_sm R) (hk : k < 10) : td_sm (R ++ [k]) := by
  intro i hi
  rw [td_len1] at hi
  rw [td_gt_app1 hi]
  split
  · exact h i ‹_›
  · exact hk
theorem td_smr {c : Nat → Nat} (hc : ∀ i, c i < 10) : ∀ d i R, td_sm R → td_sm (R ++ td_rg c i d) := by
  intro d
  induction d with
  | zero => intro i R h; rw [show td_rg c i 0 = [] from rfl, List.append_nil]; exact h
  | succ d ih => intro i R h; rw [td_rg_snoc]; exact ih _ _ (td_smp h (hc i))
def td_rX (R : List Nat) (rc : Int32) (rk rl : Nat → Int32) : Prop := rc = nI (td_cc (td_gt R) R.length).1 ∧ ∀ j, j < (td_cc (td_gt R) R.length).1 → rk j = nI ((td_cc (td_gt R) R.length).2.1 j) ∧ rl j = nI ((td_cc (td_gt R) R.length).2.2 j)
theorem td_rX0 (rk rl : Nat → Int32) : td_rX [] (nI 0) rk rl := ⟨rfl, fun j h => absurd h (Nat.not_lt_zero _)⟩
theorem td_ccA {R : List Nat} {k : Nat} : td_cc (td_gt (R ++ [k])) R.length = td_cc (td_gt R) R.length := td_ccE _ (fun i hi => td_gt_lo hi)
theorem td_p1 {p : Nat} (h : 0 < p) : nI p - 1 = nI (p - 1) := pk_sub (b := 1) h
/-- the steps of a list, from behind gap G on -/
def td_P (L : List Nat) : Nat → Nat → Nat → List Nat → List Nat
  | 0, _, _, R => R
  | d + 1, G, p, R => td_P L d (G + 1) (td_e L (td_nx L G p)) ((R ++ [if p < L.length ∧ td_gt L p = 10 + G then 1 else 2]) ++ td_rg (fun _ => 3) (td_nx L G p) (td_e L (td_nx L G p) - td_nx L G p))
theorem td_nxp {L : List Nat} {G p : Nat} : p ≤ td_nx L G p ∧ td_nx L G p ≤ p + 1 := by
  unfold td_nx
  split <;> omega
theorem td_Pl {L : List Nat} (hi : td_inc (td_gt L) L.length) : ∀ d G p R, td_At (td_gt L) L.length G p → R.length ≤ G + p → td_sm R → td_sm (td_P L d G p R) ∧ (td_P L d G p R).length ≤ G + d + L.length := by
  intro d
  induction d with
  | zero => intro G p R hA hl hs; have := hA.1; exact ⟨hs, by show R.length ≤ _; omega⟩
  | succ d ih =>
    intro G p R hA hl hs
    have e1 := (td_eP (td_nxBe hi hA).1).1
    have e2 := td_nxp (L := L) (G := G) (p := p)
    have := ih (G + 1) _ ((R ++ [if p < L.length ∧ td_gt L p = 10 + G then 1 else 2]) ++ td_rg (fun _ => 3) (td_nx L G p) (td_e L (td_nx L G p) - td_nx L G p)) (td_nxAt hi hA) (by rw [List.length_append, td_rg_len, td_len1]; omega) (td_smr (fun _ => by decide) _ _ _ (td_smp hs (by split <;> decide)))
    exact ⟨this.1, by have h2 := this.2; show (td_P L d (G + 1) _ _).length ≤ _; omega⟩
section
variable {f_workIn f_workOut f_workUsed f_documentLength f_draftLength f_runCount : Int32} {a_slotItems a_slotIn a_slotOut a_workItems a_document a_draft a_draftDocument a_runKinds a_runLengths : Nat → Int32}
variable {y_workIn y_used y_items y_length y_size y_printed : Int32} {b_out b_outLen b_inLen b_work b_doc b_result b_print : Nat → Int32}
variable {inn : Nat → Nat} {g : Nat → List Nat}
theorem td_xpush {post : SX → Prop} {R : List Nat} {k : Nat} {rc : Int32} {rk rl : Nat → Int32} (hR : R.length < 80) (hs : td_sm R) (hn : ¬ (0 < R.length ∧ k = td_gt R (R.length - 1))) (h : td_rX R rc rk rl) (hp : ∀ rc' rk' rl', td_rX (R ++ [k]) rc' rk' rl' → post (f_workIn, f_workOut, f_workUsed, f_documentLength, f_draftLength, rc', a_slotItems, a_slotIn, a_slotOut, a_workItems, a_document, a_draft, a_draftDocument, rk', rl')) : wX_listStep_40 post (nI k) f_workIn f_workOut f_workUsed f_documentLength f_draftLength rc a_slotItems a_slotIn a_slotOut a_workItems a_document a_draft a_draftDocument rk rl := by
  obtain ⟨e1, e2⟩ := h
  obtain ⟨i1, i2, i3⟩ := td_ccP R.length hs
  subst e1
  have hn2 : ¬ (0 < R.length ∧ td_gt (R ++ [k]) R.length = td_gt (R ++ [k]) (R.length - 1)) := by
    intro w
    rw [td_gt_last, td_gt_lo (by omega)] at w
    exact hn w
  have hN := td_ccN hn2
  rw [td_ccA, td_gt_last] at hN
  have hin : vp_in (nI (td_cc (td_gt R) R.length).1) 80 := vp_in_nI (by omega) (by decide)
  refine ⟨hin, nm_e ⟨hin, nm_e (nm_r (nI_1 _) (hp _ _ _ ?_))⟩⟩
  unfold td_rX
  rw [td_len1, hN, nI_clamp (by omega)]
  refine ⟨rfl, fun j hj => ?_⟩
  have hj2 : j < (td_cc (td_gt R) R.length).1 + 1 := hj
  show upd rk _ _ j = nI (if j = (td_cc (td_gt R) R.length).1 then k else (td_cc (td_gt R) R.length).2.1 j) ∧ upd rl _ _ j = nI (if j = (td_cc (td_gt R) R.length).1 then 1 else (td_cc (td_gt R) R.length).2.2 j)
  by_cases z : j = (td_cc (td_gt R) R.length).1
  · rw [if_pos z, if_pos z, z, pk_us, pk_us]; exact ⟨rfl, rfl⟩
  · rw [if_neg z, if_neg z, pk_un z, pk_un z]; exact e2 j (by omega)
theorem td_xstep {post : SX → Prop} {R : List Nat} {k : Nat} {rc : Int32} {rk rl : Nat → Int32} (hk : k < 10) (hR : R.length < 80) (hs : td_sm R) (h : td_rX R rc rk rl) (hp : ∀ rc' rk' rl', td_rX (R ++ [k]) rc' rk' rl' → post (f_workIn, f_workOut, f_workUsed, f_documentLength, f_draftLength, rc', a_slotItems, a_slotIn, a_slotOut, a_workItems, a_document, a_draft, a_draftDocument, rk', rl')) : wpX_listStep post (f_workIn, f_workOut, f_workUsed, f_documentLength, f_draftLength, rc, a_slotItems, a_slotIn, a_slotOut, a_workItems, a_document, a_draft, a_draftDocument, rk, rl) (nI k) := by
  have h' := h
  obtain ⟨e1, e2⟩ := h
  obtain ⟨i1, i2, i3⟩ := td_ccP R.length hs
  subst e1
  refine pk_le (td_cc (td_gt R) R.length).1 0 (fun z => ?_) (fun z => ?_)
  · refine td_xpush hR hs ?_ h' hp
    intro w
    have := (i2 w.1).1
    omega
  · have hpos : 0 < R.length := by omega
    obtain ⟨j1, j2⟩ := i2 hpos
    obtain ⟨m1, m2⟩ := e2 ((td_cc (td_gt R) R.length).1 - 1) (by omega)
    obtain ⟨n1, n2, n3⟩ := i3 ((td_cc (td_gt R) R.length).1 - 1) (by omega)
    rw [td_p1 z]
    have hin : vp_in (nI ((td_cc (td_gt R) R.length).1 - 1)) 80 := vp_in_nI (by omega) (by decide)
    refine ⟨hin, ?_⟩
    rw [nI_clamp (by omega), m1, m2]
    refine pk_eq _ k (fun w => ⟨hin, hin, nm_e (hp _ _ _ ?_)⟩) (fun w => td_xpush hR hs ?_ h' hp)
    · have hc : 0 < R.length ∧ td_gt (R ++ [k]) R.length = td_gt (R ++ [k]) (R.length - 1) := by
        refine ⟨hpos, ?_⟩
        rw [td_gt_last, td_gt_lo (by omega), ← j2, w]
      have hS := td_ccS hc
      rw [td_ccA] at hS
      unfold td_rX
      rw [td_len1, hS]
      refine ⟨rfl, fun j hj => ?_⟩
      have hj2 : j < (td_cc (td_gt R) R.length).1 := hj
      obtain ⟨q1, q2⟩ := e2 j hj2
      show rk j = nI ((td_cc (td_gt R) R.length).2.1 j) ∧ upd rl _ _ j = nI (if j = (td_cc (td_gt R) R.length).1 - 1 then (td_cc (td_gt R) R.length).2.2 j + 1 else (td_cc (td_gt R) R.length).2.2 j)
      refine ⟨q1, ?_⟩
      by_cases y : j = (td_cc (td_gt R) R.length).1 - 1
      · rw [if_pos y, y, pk_us, nI_1]
      · rw [if_neg y, pk_un y]; exact q2
    · intro y
      exact w (by rw [j2]; exact y.2.symm)
theorem td_xadd {post : SX → Prop} {J : Int32 → Int32 → Int32 → Int32 → Int32 → Int32 → Int32 → Int32 → (Nat → Int32) → (Nat → Int32) → (Nat → Int32) → (Nat → Int32) → (Nat → Int32) → (Nat → Int32) → (Nat → Int32) → (Nat → Int32) → (Nat → Int32) → Prop} {s G e : Nat} (he : e ≤ 40) : ∀ n i R rc rk rl, i ≤ e → e - i < n → R.length + (e - i) ≤ 80 → td_sm R → td_rX R rc rk rl → (∀ rc' rk' rl', td_rX (R ++ td_rg (fun _ => 3) i (e - i)) rc' rk' rl' → J (nI e) (nI (G + 1)) f_workIn f_workOut f_workUsed f_documentLength f_draftLength rc' a_slotItems a_slotIn a_slotOut a_workItems a_document a_draft a_draftDocument rk' rl') → wX_listRuns_62 post J (nI s) (nI G) (nI e) n (nI i) f_workIn f_workOut f_workUsed f_documentLength f_draftLength rc a_slotItems a_slotIn a_slotOut a_workItems a_document a_draft a_draftDocument rk rl := by
  intro n
  induction n with
  | zero => intro i R rc rk rl _ h; exact absurd h (Nat.not_lt_zero _)
  | succ n ih =>
    intro i R rc rk rl hi hn hl hs h hp
    refine pk_le e i (fun z => nm_r (nI_1 _) ?_) (fun z => ?_)
    · rw [show e - i = 0 from by omega, show td_rg (fun _ => 3) i 0 = [] from rfl, List.append_nil] at hp
      exact hp rc rk rl h
    · rw [td_rg_step R _ z] at hp
      exact td_xstep (k := 3) (by decide) (by omega) hs h (fun rc' rk' rl' h' => nm_r (nI_1 _) (ih (i + 1) _ rc' rk' rl' (by omega) (by omega) (by rw [td_len1]; omega) (td_smp hs (by decide)) h' hp))
theorem td_x51 {post : SX → Prop} {J : Int32 → Int32 → Int32 → Int32 → Int32 → Int32 → Int32 → Int32 → (Nat → Int32) → (Nat → Int32) → (Nat → Int32) → (Nat → Int32) → (Nat → Int32) → (Nat → Int32) → (Nat → Int32) → (Nat → Int32) → (Nat → Int32) → Prop} {s G p : Nat} {R : List Nat} {rc : Int32} {rk rl : Nat → Int32} (hs : s < 4) (hG : td_SG inn g) (hX : td_SX inn g a_slotItems a_slotIn a_slotOut) (hp1 : p ≤ (g s).length) (hl : R.length + (td_e (g s) p - p) ≤ 80) (hsm : td_sm R) (h : td_rX R rc rk rl) (hp : ∀ rc' rk' rl', td_rX (R ++ td_rg (fun _ => 3) p (td_e (g s) p - p)) rc' rk' rl' → J (nI (td_e (g s) p)) (nI (G + 1)) f_workIn f_workOut f_workUsed f_documentLength f_draftLength rc' a_slotItems a_slotIn a_slotOut a_workItems a_document a_draft a_draftDocument rk' rl') : wX_listRuns_51 post J (nI s) (nI p) (nI G) f_workIn f_workOut f_workUsed f_documentLength f_draftLength rc a_slotItems a_slotIn a_slotOut a_workItems a_document a_draft a_draftDocument rk rl := by
  obtain ⟨a1, a2, -, -⟩ := td_eP hp1
  have hL := (hG s hs).2.1
  exact td_xend hs hG hX hp1 ⟨td_e (g s) p - p + 1, td_xadd (by omega) _ p R rc rk rl a1 (by omega) hl hsm h hp⟩
theorem td_xrloop {post : SX → Prop} {s : Nat} (hs : s < 4) (hG : td_SG inn g) (hX : td_SX inn g a_slotItems a_slotIn a_slotOut) : ∀ d G p R rc rk rl, G + d = inn s → td_At (td_gt (g s)) (g s).length G p → R.length ≤ G + p → td_sm R → td_rX R rc rk rl → (∀ rc' rk' rl', td_rX (td_P (g s) d G p R) rc' rk' rl' → post (f_workIn, f_workOut, f_workUsed, f_documentLength, f_draftLength, rc', a_slotItems, a_slotIn, a_slotOut, a_workItems, a_document, a_draft, a_draftDocument, rk', rl')) → wX_listRuns_9 post (nI s) (d + 1) (nI p) (nI (G + 1)) f_workIn f_workOut f_workUsed f_documentLength f_draftLength rc a_slotItems a_slotIn a_slotOut a_workItems a_document a_draft a_draftDocument rk rl := by
  have hm4 := (hG s hs).1
  have hL := (hG s hs).2.1
  have hi : td_inc (td_gt (g s)) (g s).length := fun i j h1 h2 h3 => (hG s hs).2.2.2 i j h1 h2 h3
  intro d
  induction d with
  | zero =>
    intro G p R rc rk rl h1 hA hl hsm h hp
    exact ⟨td_s4 hs, pk_lt (inn s) (G + 1) (fun _ => hp rc rk rl h) (fun z => absurd z (by omega)) (td_nX hX hs)⟩
  | succ d ih =>
    intro G p R rc rk rl h1 hA hl hsm h hp
    have nB := (td_nxBe hi hA).1
    have nA := td_nxAt hi hA
    have nA1 := nA.1
    have e1 := (td_eP nB).1
    have e2 := td_nxp (L := g s) (G := G) (p := p)
    have p1 := hA.1
    refine ⟨td_s4 hs, pk_lt (inn s) (G + 1) (fun z => absurd z (by omega)) (fun _ => ?_) (td_nX hX hs)⟩
    rw [nI_pred]
    refine td_xkn hs hG hX hA.1 (by omega) (fun k => ?_) (fun k => ?_)
    · have eN : td_nx (g s) G p = p + 1 := if_pos k
      have hp2 : ∀ rc' rk' rl', td_rX (td_P (g s) d (G + 1) (td_e (g s) (td_nx (g s) G p)) ((R ++ [if p < (g s).length ∧ td_gt (g s) p = 10 + G then 1 else 2]) ++ td_rg (fun _ => 3) (td_nx (g s) G p) (td_e (g s) (td_nx (g s) G p) - td_nx (g s) G p))) rc' rk' rl' → post (f_workIn, f_workOut, f_workUsed, f_documentLength, f_draftLength, rc', a_slotItems, a_slotIn, a_slotOut, a_workItems, a_document, a_draft, a_draftDocument, rk', rl') := hp
      rw [if_pos k] at hp2
      refine br_f td_10ne (td_xstep (k := 1) (by decide) (by omega) hsm h (fun rc1 rk1 rl1 h1' => nm_r (nI_1 _) ?_))
      rw [← eN]
      refine td_x51 hs hG hX nB (by rw [td_len1]; omega) (td_smp hsm (by decide)) h1' (fun rc2 rk2 rl2 h2' => ?_)
      exact ih (G + 1) _ _ rc2 rk2 rl2 (by omega) nA (by rw [List.length_append, td_rg_len, td_len1]; omega) (td_smr (fun _ => by decide) _ _ _ (td_smp hsm (by decide))) h2' hp2
    · have eN : td_nx (g s) G p = p := if_neg k
      have hp2 : ∀ rc' rk' rl', td_rX (td_P (g s) d (G + 1) (td_e (g s) (td_nx (g s) G p)) ((R ++ [if p < (g s).length ∧ td_gt (g s) p = 10 + G then 1 else 2]) ++ td_rg (fun _ => 3) (td_nx (g s) G p) (td_e (g s) (td_nx (g s) G p) - td_nx (g s) G p))) rc' rk' rl' → post (f_workIn, f_workOut, f_workUsed, f_documentLength, f_draftLength, rc', a_slotItems, a_slotIn, a_slotOut, a_workItems, a_document, a_draft, a_draftDocument, rk', rl') := hp
      rw [if_neg k] at hp2
      refine br_t rfl (pk_le (G + 1) 0 (fun z => absurd z (by omega)) (fun _ => ?_))
      refine td_xstep (k := 2) (by decide) (by omega) hsm h (fun rc1 rk1 rl1 h1' => ?_)
      rw [eN] at nB nA e1 nA1 hp2
      refine td_x51 hs hG hX nB (by rw [td_len1]; omega) (td_smp hsm (by decide)) h1' (fun rc2 rk2 rl2 h2' => ?_)
      exact ih (G + 1) _ _ rc2 rk2 rl2 (by omega) nA (by rw [List.length_append, td_rg_len, td_len1]; omega) (td_smr (fun _ => by decide) _ _ _ (td_smp hsm (by decide))) h2' hp2
end
def td_st (L : List Nat) (m : Nat) : List Nat := td_P L m 0 (td_e L 0) ([] ++ td_rg (fun _ => 3) 0 (td_e L 0 - 0))
section
variable {f_workIn f_workOut f_workUsed f_documentLength f_draftLength f_runCount : Int32} {a_slotItems a_slotIn a_slotOut a_workItems a_document a_draft a_draftDocument a_runKinds a_runLengths : Nat → Int32}
variable {inn : Nat → Nat} {g : Nat → List Nat}
theorem td_xlist {post : SX → Prop} {s : Nat} (hs : s < 4) (hG : td_SG inn g) (hX : td_SX inn g a_slotItems a_slotIn a_slotOut) (hp : ∀ rc' rk' rl', td_rX (td_st (g s) (inn s)) rc' rk' rl' → post (f_workIn, f_workOut, f_workUsed, f_documentLength, f_draftLength, rc', a_slotItems, a_slotIn, a_slotOut, a_workItems, a_document, a_draft, a_draftDocument, rk', rl')) : wpX_listRuns post (f_workIn, f_workOut, f_workUsed, f_documentLength, f_draftLength, f_runCount, a_slotItems, a_slotIn, a_slotOut, a_workItems, a_document, a_draft, a_draftDocument, a_runKinds, a_runLengths) (nI s) := by
  have hm4 := (hG s hs).1
  have hL := (hG s hs).2.1
  have e := (td_eP (L := g s) (p := 0) (Nat.zero_le _)).2.1
  refine ⟨inn s + 1 + 1, ?_⟩
  refine ⟨td_s4 hs, pk_lt (inn s) 0 (fun z => absurd z (Nat.not_lt_zero _)) (fun _ => ?_) (td_nX hX hs)⟩
  refine td_xkn0 (p := 0) hs hG hX (Nat.zero_le _) td_0m1 (br_t rfl (pk_le 0 0 (fun _ => ?_) (fun z => absurd z (Nat.not_lt_zero _))))
  refine td_x51 (p := 0) (G := 0) (R := []) hs hG hX (Nat.zero_le _) (by show 0 + _ ≤ 80; omega) (fun i h => absurd h (Nat.not_lt_zero _)) (td_rX0 _ _) (fun rc1 rk1 rl1 h1 => ?_)
  exact td_xrloop hs hG hX (inn s) 0 _ _ rc1 rk1 rl1 (by omega) td_At0 (by rw [List.length_append, td_rg_len]; show 0 + _ ≤ _; omega) (td_smr (fun _ => by decide) _ _ _ (fun i h => absurd h (Nat.not_lt_zero _))) h1 hp
end
theorem td_stp {inn : Nat → Nat} {g : Nat → List Nat} {s : Nat} (hs : s < 4) (hG : td_SG inn g) : td_sm (td_st (g s) (inn s)) ∧ (td_st (g s) (inn s)).length ≤ 80 := by
  have hm4 := (hG s hs).1
  have hL := (hG s hs).2.1
  have hi : td_inc (td_gt (g s)) (g s).length := fun i j h1 h2 h3 => (hG s hs).2.2.2 i j h1 h2 h3
  obtain ⟨a, b⟩ := td_Pl hi (inn s) 0 (td_e (g s) 0) ([] ++ td_rg (fun _ => 3) 0 (td_e (g s) 0 - 0)) td_At0 (by rw [List.length_append, td_rg_len]; show 0 + _ ≤ _; omega) (td_smr (fun _ => by decide) _ _ _ (fun i h => absurd h (Nat.not_lt_zero _)))
  exact ⟨a, by unfold td_st; omega⟩
end
section
section
variable {y_workIn y_used y_items y_length y_size y_printed : Int32} {b_out b_outLen b_inLen b_work b_doc b_result b_print : Nat → Int32}
variable {inn : Nat → Nat} {g : Nat → List Nat}
theorem td_ypg2 {post : SY → Prop} {s G p e : Nat} (hs : s < 4) (hG : td_SG inn g) (hY : td_SY inn g b_out b_outLen b_inLen) (hGb : G ≤ 41) (hpe : p ≤ e) (hen : e ≤ (g s).length) (hg : ∀ i, i < (g s).length → ((td_gt (g s) i < 10 ∧ td_ga (td_gt (g s)) i = G) ↔ (p ≤ i ∧ i < e))) : ∀ n i R pr, i ≤ (g s).length → (g s).length - i < n → R.length + (e - max i p) ≤ 80 → td_dY R pr → (∀ pr', td_dY (R ++ td_rg (fun _ => 3) (max i p) (e - max i p)) pr' → post (y_workIn, y_used, y_items, y_length, y_size, nI (R ++ td_rg (fun _ => 3) (max i p) (e - max i p)).length, b_out, b_outLen, b_inLen, b_work, b_doc, b_result, pr')) → wY_printGap_2 post (nI s) (nI G) y_workIn y_used y_items y_length y_size n (nI i) (nI R.length) b_out b_outLen b_inLen b_work b_doc b_result pr := by
  have hL := (hG s hs).2.1
  intro n
  induction n with
  | zero => intro i R pr _ h; exact absurd h (Nat.not_lt_zero _)
  | succ n ih =>
    intro i R pr hi hn hl hd hp
    refine ⟨td_s4 hs, pk_le (g s).length i (fun h => ?_) (fun h => ⟨td_cI hG hs h, ?_⟩) (td_oY hY hs)⟩
    · rw [show e - max i p = 0 from by omega, show td_rg (fun _ => 3) (max i p) 0 = [] from rfl, List.append_nil] at hp
      exact hp pr hd
    · have h60 := td_g60 hG hs h
      have h41 := td_ga50 hs hG (p := i) (by omega)
      have skip : ¬ (p ≤ i ∧ i < e) → wY_printGap_2 post (nI s) (nI G) y_workIn y_used y_items y_length y_size n (nI (i + 1)) (nI R.length) b_out b_outLen b_inLen b_work b_doc b_result pr := by
        intro z
        refine ih (i + 1) R pr (by omega) (by omega) (by omega) hd ?_
        by_cases y : i < p
        · rw [show max (i + 1) p = max i p from by omega]; exact hp
        · rw [show e - max (i + 1) p = 0 from by omega]
          rw [show e - max i p = 0 from by omega] at hp
          exact hp
      refine pk_le 10 (td_gt (g s) i) (fun z => nm_r (nI_1 _) (skip (fun y => by have := (hg i h).mpr y; omega))) (fun z => td_ygap hs hG hY (by omega) ?_) rfl (td_cY hY hG hs h)
      refine pk_eq (td_ga (td_gt (g s)) i) G (fun y => ?_) (fun y => nm_r (nI_1 _) (skip (fun w => y ((hg i h).mpr w).2)))
      have hr := (hg i h).mp ⟨z, y⟩
      rw [show max i p = i from by omega, td_rg_step R (fun _ => 3) hr.2] at hp
      refine ⟨vp_in_nI (by omega) (by decide), nm_r (e' := upd pr R.length (nI 3)) (by rw [nI_clamp (by omega)]; rfl) (nm_r (nI_1 _) (nm_r (nI_1 _) ?_))⟩
      rw [← td_len1 (x := 3)]
      refine ih (i + 1) (R ++ [3]) _ (by omega) (by omega) (by rw [td_len1]; omega) (td_dYp hd) ?_
      rw [show max (i + 1) p = i + 1 from by omega]
      exact hp
theorem td_ypg {post : SY → Prop} {s G p e : Nat} {R : List Nat} {pr : Nat → Int32} (hs : s < 4) (hG : td_SG inn g) (hY : td_SY inn g b_out b_outLen b_inLen) (hGb : G ≤ 41) (hpe : p ≤ e) (hen : e ≤ (g s).length) (hg : ∀ i, i < (g s).length → ((td_gt (g s) i < 10 ∧ td_ga (td_gt (g s)) i = G) ↔ (p ≤ i ∧ i < e))) (hl : R.length + (e - p) ≤ 80) (hd : td_dY R pr) (hp : ∀ pr', td_dY (R ++ td_rg (fun _ => 3) p (e - p)) pr' → post (y_workIn, y_used, y_items, y_length, y_size, nI (R ++ td_rg (fun _ => 3) p (e - p)).length, b_out, b_outLen, b_inLen, b_work, b_doc, b_result, pr')) : wpY_printGap post (y_workIn, y_used, y_items, y_length, y_size, nI R.length, b_out, b_outLen, b_inLen, b_work, b_doc, b_result, pr) (nI s) (nI G) :=
  ⟨(g s).length + 1, td_ypg2 hs hG hY hGb hpe hen hg _ 0 R pr (Nat.zero_le _) (by omega) (by rw [show max 0 p = p from by omega]; exact hl) hd (by rw [show max 0 p = p from by omega]; exact hp)⟩
theorem td_y45 {post : SY → Prop} {J : Int32 → Int32 → Int32 → Int32 → Int32 → Int32 → Int32 → (Nat → Int32) → (Nat → Int32) → (Nat → Int32) → (Nat → Int32) → (Nat → Int32) → (Nat → Int32) → (Nat → Int32) → Prop} {s G p e k : Nat} {R : List Nat} {pr : Nat → Int32} {z0 : Int32} (hs : s < 4) (hG : td_SG inn g) (hY : td_SY inn g b_out b_outLen b_inLen) (hGb : G ≤ 40) (hpe : p ≤ e) (hen : e ≤ (g s).length) (hg : ∀ i, i < (g s).length → ((td_gt (g s) i < 10 ∧ td_ga (td_gt (g s)) i = G + 1) ↔ (p ≤ i ∧ i < e))) (hz : z0 = nI k) (hl : R.length + 1 + (e - p) ≤ 80) (hd : td_dY R pr) (hp : ∀ pr', td_dY ((R ++ [k]) ++ td_rg (fun _ => 3) p (e - p)) pr' → J (nI (G + 1)) y_workIn y_used y_items y_length y_size (nI ((R ++ [k]) ++ td_rg (fun _ => 3) p (e - p)).length) b_out b_outLen b_inLen b_work b_doc b_result pr') : wY_print_45 post J (nI s) (nI G) z0 (nI R.length) y_workIn y_used y_items y_length y_size (nI R.length) b_out b_outLen b_inLen b_work b_doc b_result pr := by
  subst hz
  refine ⟨vp_in_nI (by omega) (by decide), nm_r (e' := upd pr R.length (nI k)) (by rw [nI_clamp (by omega)]) (nm_r (nI_1 _) ?_)⟩
  rw [nI_1 G, ← td_len1 (x := k)]
  exact td_ypg hs hG hY (by omega) hpe hen hg (by rw [td_len1]; omega) (td_dYp hd) (fun pr' hd' => nm_e (hp pr' hd'))
theorem td_yprloop {post : SY → Prop} {s : Nat} (hs : s < 4) (hG : td_SG inn g) (hY : td_SY inn g b_out b_outLen b_inLen) : ∀ d G p R pr, G + d = inn s → td_At (td_gt (g s)) (g s).length G p → R.length ≤ G + p → td_dY R pr → (∀ pr', td_dY (td_P (g s) d G p R) pr' → post (y_workIn, y_used, y_items, y_length, y_size, nI (td_P (g s) d G p R).length, b_out, b_outLen, b_inLen, b_work, b_doc, b_result, pr')) → wY_print_13 post (nI s) (d + 1) (nI G) y_workIn y_used y_items y_length y_size (nI R.length) b_out b_outLen b_inLen b_work b_doc b_result pr := by
  have hm4 := (hG s hs).1
  have hL := (hG s hs).2.1
  have hi : td_inc (td_gt (g s)) (g s).length := fun i j h1 h2 h3 => (hG s hs).2.2.2 i j h1 h2 h3
  intro d
  induction d with
  | zero =>
    intro G p R pr h1 hA hl hd hp
    exact ⟨td_s4 hs, pk_le (inn s) G (fun _ => hp pr hd) (fun z => absurd z (by omega)) (td_nY hY hs)⟩
  | succ d ih =>
    intro G p R pr h1 hA hl hd hp
    have nB := td_nxBe hi hA
    have nA := td_nxAt hi hA
    have nA1 := nA.1
    have eP := td_eP nB.1
    have e1 := eP.1
    have e2 := td_nxp (L := g s) (G := G) (p := p)
    have p1 := hA.1
    have gg := td_gap hi nB eP
    have hp2 : ∀ pr', td_dY (td_P (g s) d (G + 1) (td_e (g s) (td_nx (g s) G p)) ((R ++ [if p < (g s).length ∧ td_gt (g s) p = 10 + G then 1 else 2]) ++ td_rg (fun _ => 3) (td_nx (g s) G p) (td_e (g s) (td_nx (g s) G p) - td_nx (g s) G p))) pr' → post (y_workIn, y_used, y_items, y_length, y_size, nI (td_P (g s) d (G + 1) (td_e (g s) (td_nx (g s) G p)) ((R ++ [if p < (g s).length ∧ td_gt (g s) p = 10 + G then 1 else 2]) ++ td_rg (fun _ => 3) (td_nx (g s) G p) (td_e (g s) (td_nx (g s) G p) - td_nx (g s) G p))).length, b_out, b_outLen, b_inLen, b_work, b_doc, b_result, pr') := hp
    refine ⟨td_s4 hs, pk_le (inn s) G (fun z => absurd z (by omega)) (fun _ => ?_) (td_nY hY hs)⟩
    by_cases k : p < (g s).length ∧ td_gt (g s) p = 10 + G
    · rw [if_pos k] at hp2
      refine td_yplK hs hG hY (by omega) k.1 k.2 (td_plK hi hA k.2) (br_f (nI_pos (by omega)) ?_)
      exact td_y45 (k := 1) hs hG hY (by omega) e1 nA1 gg rfl (by omega) hd (fun pr' hd' => ih (G + 1) _ _ pr' (by omega) nA (by rw [List.length_append, td_rg_len, td_len1]; omega) hd' hp2)
    · rw [if_neg k] at hp2
      refine td_yplD hs hG hY (by omega) (td_plD hi hA k) (br_t td_m1neg ?_)
      exact td_y45 (k := 2) hs hG hY (by omega) e1 nA1 gg rfl (by omega) hd (fun pr' hd' => ih (G + 1) _ _ pr' (by omega) nA (by rw [List.length_append, td_rg_len, td_len1]; omega) hd' hp2)
theorem td_yprint {post : SY → Prop} {s : Nat} (hs : s < 4) (hG : td_SG inn g) (hY : td_SY inn g b_out b_outLen b_inLen) (hp : ∀ pr', td_dY (td_st (g s) (inn s)) pr' → post (y_workIn, y_used, y_items, y_length, y_size, nI (td_st (g s) (inn s)).length, b_out, b_outLen, b_inLen, b_work, b_doc, b_result, pr')) : wpY_print post (y_workIn, y_used, y_items, y_length, y_size, y_printed, b_out, b_outLen, b_inLen, b_work, b_doc, b_result, b_print) (nI s) := by
  have hm4 := (hG s hs).1
  have hL := (hG s hs).2.1
  have hi : td_inc (td_gt (g s)) (g s).length := fun i j h1 h2 h3 => (hG s hs).2.2.2 i j h1 h2 h3
  have eP := td_eP (L := g s) (p := 0) (Nat.zero_le _)
  have e := eP.2.1
  refine td_ypg (p := 0) (G := 0) (R := []) hs hG hY (by omega) eP.1 eP.2.1 (td_gap hi (td_Be0 _ _) eP) (by show 0 + _ ≤ 80; omega) (td_dY0 _) (fun pr' hd' => ⟨inn s + 1, ?_⟩)
  exact td_yprloop hs hG hY (inn s) 0 _ _ pr' (by omega) td_At0 (by rw [List.length_append, td_rg_len]; show 0 + _ ≤ _; omega) hd' hp
/-! counting the runs -/
theorem td_ycount {post : Int32 → SY → Prop} {R : List Nat} (hR : R.length ≤ 80) (hs : td_sm R) (hd : td_dY R b_print) (hp : post (nI (td_cc (td_gt R) R.length).1) (y_workIn, y_used, y_items, y_length, y_size, nI R.length, b_out, b_outLen, b_inLen, b_work, b_doc, b_result, b_print)) : ∀ n p, p ≤ R.length → R.length - p < n → wY_runs_19 post y_workIn y_used y_items y_length y_size (nI R.length) b_out b_outLen b_inLen b_work b_doc b_result b_print n (nI (td_cc (td_gt R) p).1) (nI p) := by
  intro n
  induction n with
  | zero => intro p _ h; exact absurd h (Nat.not_lt_zero _)
  | succ n ih =>
    intro p hi hn
    refine pk_le R.length p (fun h => ?_) (fun h => ?_)
    · rw [show p = R.length from by omega]; exact hp
    · have hi2 := ih (p + 1) (by omega) (by omega)
      have s1 := hs p h
      refine pk_eq p 0 (fun z => nm_r (nI_1 _) (nm_r (nI_1 _) ?_)) (fun z => ?_)
      · rw [td_ccN (by omega)] at hi2
        exact hi2
      · have s2 := hs (p - 1) (by omega)
        rw [td_p1 (by omega)]
        refine ⟨vp_in_nI (by omega) (by decide), vp_in_nI (by omega) (by decide), ?_⟩
        rw [nI_clamp (by omega), nI_clamp (by omega), hd p h, hd (p - 1) (by omega)]
        refine pk_eq (td_gt R p) (td_gt R (p - 1)) (fun w => nm_r (nI_1 _) ?_) (fun w => nm_r (nI_1 _) (nm_r (nI_1 _) ?_))
        · rw [td_ccS ⟨by omega, w⟩] at hi2
          exact hi2
        · rw [td_ccN (fun y => w y.2)] at hi2
          exact hi2
/-! one run -/
theorem td_yrunS {post : Int32 → SY → Prop} {R : List Nat} {x x4 x5 : Int32} {n p : Nat} (hR : R.length ≤ 80) (hs : td_sm R) (hd : td_dY R b_print) (h : p < R.length) (h62 : wY_run_62 post (wY_run_26 post x y_workIn y_used y_items y_length y_size (nI R.length) b_out b_outLen b_inLen b_work b_doc b_result b_print n) x (nI ((td_cc (td_gt R) (p + 1)).1 - 1)) x4 x5 (nI p) y_workIn y_used y_items y_length y_size (nI R.length) b_out b_outLen b_inLen b_work b_doc b_result b_print) : wY_run_26 post x y_workIn y_used y_items y_length y_size (nI R.length) b_out b_outLen b_inLen b_work b_doc b_result b_print (n + 1) (nI (td_cc (td_gt R) p).1 - 1) x4 x5 (nI p) := by
  have s1 := hs p h
  obtain ⟨c1, c2, c3⟩ := td_ccP (st := td_gt R) p (fun i hi => hs i (by omega))
  have e1 : nI (td_cc (td_gt R) p).1 - 1 + 1 = nI (td_cc (td_gt R) p).1 := Int32.sub_add_cancel _ _
  refine pk_le R.length p (fun z => absurd z (by omega)) (fun _ => ?_)
  refine pk_eq p 0 (fun z => nm_r e1 ?_) (fun z => ?_)
  · rw [td_ccN (by omega)] at h62
    exact h62
  · have s2 := hs (p - 1) (by omega)
    rw [td_p1 (p := p) (by omega)]
    refine ⟨vp_in_nI (by omega) (by decide), vp_in_nI (by omega) (by decide), ?_⟩
    rw [nI_clamp (by omega), nI_clamp (by omega), hd p h, hd (p - 1) (by omega)]
    refine pk_eq (td_gt R p) (td_gt R (p - 1)) (fun w => ?_) (fun w => nm_r e1 ?_)
    · rw [td_ccS ⟨by omega, w⟩] at h62
      rw [td_p1 (c2 (by omega)).1]
      exact h62
    · rw [td_ccN (fun y => w y.2)] at h62
      exact h62
theorem td_yrunN {post : Int32 → SY → Prop} {R : List Nat} {x : Int32} (hR : R.length ≤ 80) (hs : td_sm R) (hd : td_dY R b_print) (hx : x < 0) (hp : post (-4) (y_workIn, y_used, y_items, y_length, y_size, nI R.length, b_out, b_outLen, b_inLen, b_work, b_doc, b_result, b_print)) : ∀ n p x4, p ≤ R.length → R.length - p < n → wY_run_26 post x y_workIn y_used y_items y_length y_size (nI R.length) b_out b_outLen b_inLen b_work b_doc b_result b_print n (nI (td_cc (td_gt R) p).1 - 1) x4 0 (nI p) := by
  intro n
  induction n with
  | zero => intro p x4 _ h; exact absurd h (Nat.not_lt_zero _)
  | succ n ih =>
    intro p x4 hi hn
    by_cases h : p < R.length
    · refine td_yrunS hR hs hd h ?_
      obtain ⟨c1, c2, c3⟩ := td_ccP (st := td_gt R) (p + 1) (fun i hi => hs i (by omega))
      have hne : ¬ nI ((td_cc (td_gt R) (p + 1)).1 - 1) = x := by
        intro e
        rw [← e] at hx
        exact nI_pos (by omega) hx
      refine br_f hne (nm_r (nI_1 _) ?_)
      have := ih (p + 1) x4 (by omega) (by omega)
      rw [td_p1 (c2 (by omega)).1] at this
      exact this
    · exact pk_le R.length p (fun _ => br_t rfl hp) (fun z => absurd z h)
theorem td_yrun {post : Int32 → SY → Prop} {R : List Nat} {j : Nat} (hR : R.length ≤ 80) (hs : td_sm R) (hd : td_dY R b_print) (hj : j < 2 ^ 31) (h1 : j < (td_cc (td_gt R) R.length).1 → post (nI ((td_cc (td_gt R) R.length).2.1 j) + 4 * nI ((td_cc (td_gt R) R.length).2.2 j)) (y_workIn, y_used, y_items, y_length, y_size, nI R.length, b_out, b_outLen, b_inLen, b_work, b_doc, b_result, b_print)) (h2 : (td_cc (td_gt R) R.length).1 ≤ j → post (-4) (y_workIn, y_used, y_items, y_length, y_size, nI R.length, b_out, b_outLen, b_inLen, b_work, b_doc, b_result, b_print)) : ∀ n p x4 x5, p ≤ R.length → R.length - p < n → (j < (td_cc (td_gt R) p).1 → x4 = nI ((td_cc (td_gt R) p).2.1 j) ∧ x5 = nI ((td_cc (td_gt R) p).2.2 j)) → ((td_cc (td_gt R) p).1 ≤ j → x5 = 0) → wY_run_26 post (nI j) y_workIn y_used y_items y_length y_size (nI R.length) b_out b_outLen b_inLen b_work b_doc b_result b_print n (nI (td_cc (td_gt R) p).1 - 1) x4 x5 (nI p) := by
  intro n
  induction n with
  | zero => intro p x4 x5 _ h; exact absurd h (Nat.not_lt_zero _)
  | succ n ih =>
    intro p x4 x5 hi hn k1 k2
    by_cases h : p < R.length
    · refine td_yrunS hR hs hd h ?_
      obtain ⟨c1, c2, c3⟩ := td_ccP (st := td_gt R) (p + 1) (fun i hi => hs i (by omega))
      obtain ⟨b1, b2, b3⟩ := td_ccP (st := td_gt R) p (fun i hi => hs i (by omega))
      have cpos := (c2 (by omega)).1
      have ih' := fun x4 x5 => ih (p + 1) x4 x5 (by omega) (by omega)
      rw [td_p1 cpos] at ih'
      refine pk_eq ((td_cc (td_gt R) (p + 1)).1 - 1) j (fun e => ⟨vp_in_nI (by omega) (by decide), nm_r (e' := nI (td_gt R p)) (by rw [nI_clamp (by omega), hd p h]) (nm_e (nm_r (nI_1 _) (ih' _ _ (fun z => ?_) (fun z => absurd z (by omega)))))⟩) (fun e => nm_r (nI_1 _) (ih' _ _ (fun z => ?_) (fun z => ?_)))
      · by_cases w : 0 < p ∧ td_gt R p = td_gt R (p - 1)
        · rw [td_ccS w] at e ⊢
          have e' : (td_cc (td_gt R) p).1 - 1 = j := e
          obtain ⟨d1, d2⟩ := b2 w.1
          obtain ⟨q1, q2⟩ := k1 (by omega)
          refine ⟨?_, ?_⟩
          · show nI (td_gt R p) = nI ((td_cc (td_gt R) p).2.1 j)
            rw [← e', d2, w.2]
          · show x5 + 1 = nI (if j = (td_cc (td_gt R) p).1 - 1 then (td_cc (td_gt R) p).2.2 j + 1 else (td_cc (td_gt R) p).2.2 j)
            rw [if_pos e'.symm, q2, nI_1]
        · rw [td_ccN w] at e ⊢
          have e' : (td_cc (td_gt R) p).1 + 1 - 1 = j := e
          have e'' : j = (td_cc (td_gt R) p).1 := by omega
          refine ⟨?_, ?_⟩
          · show nI (td_gt R p) = nI (if j = (td_cc (td_gt R) p).1 then td_gt R p else (td_cc (td_gt R) p).2.1 j)
            rw [if_pos e'']
          · show x5 + 1 = nI (if j = (td_cc (td_gt R) p).1 then 1 else (td_cc (td_gt R) p).2.2 j)
            rw [if_pos e'', k2 (by omega)]
            rfl
      · by_cases w : 0 < p ∧ td_gt R p = td_gt R (p - 1)
        · rw [td_ccS w] at e z ⊢
          have e' : (td_cc (td_gt R) p).1 - 1 ≠ j := e
          have z' : j < (td_cc (td_gt R) p).1 := z
          obtain ⟨q1, q2⟩ := k1 z'
          refine ⟨q1, ?_⟩
          show x5 = nI (if j = (td_cc (td_gt R) p).1 - 1 then (td_cc (td_gt R) p).2.2 j + 1 else (td_cc (td_gt R) p).2.2 j)
          rw [if_neg (fun y => e' y.symm)]
          exact q2
        · rw [td_ccN w] at e z ⊢
          have e' : (td_cc (td_gt R) p).1 + 1 - 1 ≠ j := e
          have z' : j < (td_cc (td_gt R) p).1 + 1 := z
          have e'' : ¬ j = (td_cc (td_gt R) p).1 := by omega
          obtain ⟨q1, q2⟩ := k1 (by omega)
          refine ⟨?_, ?_⟩
          · show x4 = nI (if j = (td_cc (td_gt R) p).1 then td_gt R p else (td_cc (td_gt R) p).2.1 j)
            rw [if_neg e'']; exact q1
          · show x5 = nI (if j = (td_cc (td_gt R) p).1 then 1 else (td_cc (td_gt R) p).2.2 j)
            rw [if_neg e'']; exact q2
      · refine k2 ?_
        by_cases w : 0 < p ∧ td_gt R p = td_gt R (p - 1)
        · rw [td_ccS w] at z; exact z
        · rw [td_ccN w] at z
          have z' : (td_cc (td_gt R) p).1 + 1 ≤ j := z
          omega
    · have hpe : p = R.length := by omega
      rw [hpe] at k1 k2
      obtain ⟨b1, b2, b3⟩ := td_ccP (st := td_gt R) R.length hs
      refine pk_le R.length p (fun _ => ?_) (fun z => absurd z h)
      by_cases w : j < (td_cc (td_gt R) R.length).1
      · obtain ⟨q1, q2⟩ := k1 w
        obtain ⟨r1, r2, r3⟩ := b3 j w
        rw [q1, q2]
        exact br_f (nI_ne0 (by omega) (by omega)) (h1 w)
      · exact br_t (k2 (by omega)) (h2 (by omega))
end
end
section
theorem i_vc_runs {k : Nat} {u : SX} {v : SY} (I : i_Rel k u v) (hk : k + 5 ≤ 2560) (v1 : Int32) : wpX_runs (fun r u' => wpY_runs (fun r' v' => r' = r ∧ i_Rel (k + 5) u' v') v v1) u v1 := by
  obtain ⟨f_workIn, f_workOut, f_workUsed, f_documentLength, f_draftLength, f_runCount, a_slotItems, a_slotIn, a_slotOut, a_workItems, a_document, a_draft, a_draftDocument, a_runKinds, a_runLengths⟩ := u
  obtain ⟨y_workIn, y_used, y_items, y_length, y_size, y_printed, b_out, b_outLen, b_inLen, b_work, b_doc, b_result, b_print⟩ := v
  have I2 := I
  obtain ⟨wi, us, wk, dc, inn, g, hK, hG, ⟨rfl, rfl, rfl, rfl, hX, hw, hd⟩, rfl, rfl, rfl, rfl, hY, hw2, hd2⟩ := I
  unfold wpX_runs wpY_runs
  rcases td_slot v1 with ⟨s, hs, rfl⟩ | ⟨hx, hy⟩
  · obtain ⟨p1, p2⟩ := td_stp hs hG
    refine td_xs1 hs (br_f td_10ne (td_xlist hs hG hX (fun rc rk rl hr => ?_)))
    refine td_ys1 hs (br_f td_10ne (td_yprint hs hG hY (fun pr hpr => ⟨(td_st (g s) (inn s)).length + 1, ?_⟩)))
    refine td_ycount p2 p1 hpr ⟨hr.1.symm, ?_⟩ _ 0 (Nat.zero_le _) (by omega)
    exact td_mk hK hG hX hw hd hY hw2 hd2
  · exact hx _ (br_t rfl (hy _ _ (br_t rfl ⟨rfl, I2⟩)))
theorem i_vc_run {k : Nat} {u : SX} {v : SY} (I : i_Rel k u v) (hk : k + 5 ≤ 2560) (v1 : Int32) (v2 : Int32) : wpX_run (fun r u' => wpY_run (fun r' v' => r' = r ∧ i_Rel (k + 5) u' v') v v1 v2) u v1 v2 := by
  obtain ⟨f_workIn, f_workOut, f_workUsed, f_documentLength, f_draftLength, f_runCount, a_slotItems, a_slotIn, a_slotOut, a_workItems, a_document, a_draft, a_draftDocument, a_runKinds, a_runLengths⟩ := u
  obtain ⟨y_workIn, y_used, y_items, y_length, y_size, y_printed, b_out, b_outLen, b_inLen, b_work, b_doc, b_result, b_print⟩ := v
  have I2 := I
  obtain ⟨wi, us, wk, dc, inn, g, hK, hG, ⟨rfl, rfl, rfl, rfl, hX, hw, hd⟩, rfl, rfl, rfl, rfl, hY, hw2, hd2⟩ := I
  unfold wpX_run wpY_run
  rcases td_slot v1 with ⟨s, hs, rfl⟩ | ⟨hx, hy⟩
  · obtain ⟨p1, p2⟩ := td_stp hs hG
    obtain ⟨c1, c2, c3⟩ := td_ccP (st := td_gt (td_st (g s) (inn s))) _ p1
    refine td_xs1 hs (br_f td_10ne (td_xlist hs hG hX (fun rc rk rl hr => ?_)))
    obtain ⟨rfl, hr⟩ := hr
    by_cases h0 : v2 < 0
    · refine br_t h0 (td_ys1 hs (br_f td_10ne (td_yprint hs hG hY (fun pr hpr => ⟨(td_st (g s) (inn s)).length + 1, ?_⟩))))
      exact td_yrunN p2 p1 hpr h0 ⟨rfl, td_mk hK hG hX hw hd hY hw2 hd2⟩ _ 0 _ (Nat.zero_le _) (by omega)
    · obtain ⟨j, hj, rfl⟩ := nI_of h0
      refine br_f h0 (pk_lt j (td_cc (td_gt (td_st (g s) (inn s))) (td_st (g s) (inn s)).length).1 (fun h => ⟨vp_in_nI (by omega) (by decide), vp_in_nI (by omega) (by decide), ?_⟩) (fun h => ?_))
      · rw [nI_clamp hj, (hr j h).1, (hr j h).2]
        refine td_ys1 hs (br_f td_10ne (td_yprint hs hG hY (fun pr hpr => ⟨(td_st (g s) (inn s)).length + 1, ?_⟩)))
        exact td_yrun p2 p1 hpr hj (fun _ => ⟨rfl, td_mk hK hG hX hw hd hY hw2 hd2⟩) (fun z => absurd h (by omega)) _ 0 _ _ (Nat.zero_le _) (by omega) (fun z => absurd z (Nat.not_lt_zero _)) (fun _ => rfl)
      · refine td_ys1 hs (br_f td_10ne (td_yprint hs hG hY (fun pr hpr => ⟨(td_st (g s) (inn s)).length + 1, ?_⟩)))
        exact td_yrun p2 p1 hpr hj (fun z => absurd h (by omega)) (fun _ => ⟨rfl, td_mk hK hG hX hw hd hY hw2 hd2⟩) _ 0 _ _ (Nat.zero_le _) (by omega) (fun z => absurd z (Nat.not_lt_zero _)) (fun _ => rfl)
  · exact hx _ (br_t rfl (hy _ _ (br_t rfl ⟨rfl, I2⟩)))
end
