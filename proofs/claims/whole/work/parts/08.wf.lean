/-! the run under one more token -/
theorem rf_hgc {tk tk' : Nat → Int32} {T : Nat} (h : ∀ j, j < T → tk' j = tk j) : ∀ i, i ≤ T → rf_hg tk' i = rf_hg tk i := by
  intro i
  induction i with
  | zero => exact fun _ => rfl
  | succ i ih =>
    intro hi
    show rf_hg tk' i - rf_pp (tk' i) + 1 = rf_hg tk i - rf_pp (tk i) + 1
    rw [ih (by omega), h i (by omega)]
theorem rf_tyc {tk tk' tt tt' : Nat → Int32} {T : Nat} (h : ∀ j, j < T → tk' j = tk j) (h2 : ∀ j, j < T → tt' j = tt j) : ∀ i, i ≤ T → rf_ty tk' tt' i = rf_ty tk tt i := by
  intro i
  induction i with
  | zero => exact fun _ => rfl
  | succ i ih =>
    intro hi
    show upd (rf_ty tk' tt' i) (rf_hg tk' i - rf_pp (tk' i)) (tt' i) = upd (rf_ty tk tt i) (rf_hg tk i - rf_pp (tk i)) (tt i)
    rw [ih (by omega), h i (by omega), h2 i (by omega), rf_hgc h i (by omega)]
theorem rf_wfc {R h : Nat} {ar ty ty' : Nat → Int32} {k a tt st : Int32} (he : ∀ s, s < h → ty' s = ty s) (hw : rf_wf R ar ty h k a tt st) : rf_wf R ar ty' h k a tt st := by
  have hp := hw.2.1
  have e1 : rf_lt k ty' h = rf_lt k ty h := by
    unfold rf_lt
    by_cases h2 : rf_pp k = 2
    · rw [if_pos h2, if_pos h2, he _ (by omega)]
    · rw [if_neg h2, if_neg h2]
  have e2 : rf_rr k ty' h = rf_rr k ty h := by
    unfold rf_rr
    by_cases h2 : rf_pp k = 0
    · rw [if_pos h2, if_pos h2]
    · rw [if_neg h2, if_neg h2, he _ (by omega)]
  unfold rf_wf at hw ⊢
  rw [e1, e2]
  exact hw
theorem rf_updlt (f : Nat → Int32) (T : Nat) (x : Int32) : ∀ j, j < T → upd f T x j = f j := fun j hj => pk_un (by omega)
theorem rf_WFs {R T : Nat} {ar tk ta tt st : Nat → Int32} {k a t s : Int32} (hW : rf_WF R ar tk ta tt st T) (hw : rf_wf R ar (rf_ty tk tt T) (rf_hg tk T) k a t s) : rf_WF R ar (upd tk T k) (upd ta T a) (upd tt T t) (upd st T s) (T + 1) := by
  intro i hi
  rw [rf_tyc (rf_updlt tk T k) (rf_updlt tt T t) i (by omega), rf_hgc (rf_updlt tk T k) i (by omega)]
  by_cases e : i = T
  · subst e
    rw [pk_us, pk_us, pk_us, pk_us]
    exact hw
  · rw [pk_un e, pk_un e, pk_un e, pk_un e]
    exact hW i (by omega)
theorem rf_hgs {tk : Nat → Int32} {T : Nat} {k : Int32} : rf_hg (upd tk T k) (T + 1) = rf_hg tk T - rf_pp k + 1 := by
  show rf_hg (upd tk T k) T - rf_pp (upd tk T k T) + 1 = _
  rw [rf_hgc (rf_updlt tk T k) T (Nat.le_refl T), pk_us]
theorem rf_tys {tk tt : Nat → Int32} {T : Nat} {k t : Int32} : rf_ty (upd tk T k) (upd tt T t) (T + 1) = upd (rf_ty tk tt T) (rf_hg tk T - rf_pp k) t := by
  show upd (rf_ty (upd tk T k) (upd tt T t) T) (rf_hg (upd tk T k) T - rf_pp (upd tk T k T)) (upd tt T t T) = _
  rw [rf_hgc (rf_updlt tk T k) T (Nat.le_refl T), rf_tyc (rf_updlt tk T k) (rf_updlt tt T t) T (Nat.le_refl T), pk_us, pk_us]
theorem rf_rt3 {k lt rt ra : Int32} (hl : lt = 0 ∨ lt = 1 ∨ lt = 2) (hr : rt = 0 ∨ rt = 1 ∨ rt = 2) (ha : ra = 1 ∨ ra = 2) (hn : ¬ rf_rt k lt rt ra = -1) : rf_rt k lt rt ra = 0 ∨ rf_rt k lt rt ra = 1 ∨ rf_rt k lt rt ra = 2 := by
  revert hn
  unfold rf_rt
  by_cases h1 : k = 1
  · rw [if_pos h1]
    intro _
    exact Or.inr ha
  rw [if_neg h1]
  by_cases h2 : k = 2 ∨ k = 3
  · rw [if_pos h2]
    exact fun _ => Or.inr (Or.inl rfl)
  rw [if_neg h2]
  by_cases h3 : k = 4
  · rw [if_pos h3]
    exact fun _ => Or.inr (Or.inr rfl)
  rw [if_neg h3]
  by_cases h4 : 5 ≤ k ∧ k ≤ 7
  · rw [if_pos h4]
    by_cases h : ¬ lt = 0 ∧ lt = rt
    · rw [if_pos h]
      exact fun _ => hl
    · rw [if_neg h]
      exact fun z => absurd rfl z
  rw [if_neg h4]
  by_cases h5 : k = 8
  · rw [if_pos h5]
    by_cases h : lt = 0 ∨ rt = 0 ∨ (lt = 1 ∧ rt = 1)
    · rw [if_pos h]
      exact fun z => absurd rfl z
    · rw [if_neg h]
      by_cases h' : lt = 2 ∧ rt = 2
      · rw [if_pos h']
        exact fun _ => Or.inr (Or.inr rfl)
      · rw [if_neg h']
        exact fun _ => Or.inr (Or.inl rfl)
  rw [if_neg h5]
  by_cases h6 : k = 9
  · rw [if_pos h6]
    by_cases h : lt = 1 ∧ rt = 1
    · rw [if_pos h]
      exact fun _ => Or.inr (Or.inr rfl)
    · rw [if_neg h]
      exact fun z => absurd rfl z
  rw [if_neg h6]
  by_cases h7 : k = 10 ∨ k = 11
  · rw [if_pos h7]
    by_cases h : rt = 2
    · rw [if_pos h]
      exact fun _ => Or.inr (Or.inr rfl)
    · rw [if_neg h]
      exact fun z => absurd rfl z
  rw [if_neg h7]
  by_cases h8 : k = 12 ∨ k = 13
  · rw [if_pos h8]
    by_cases h : ¬ lt = 0 ∧ lt = rt
    · rw [if_pos h]
      exact fun _ => Or.inl rfl
    · rw [if_neg h]
      exact fun z => absurd rfl z
  rw [if_neg h8]
  by_cases h9 : 14 ≤ k ∧ k ≤ 16
  · rw [if_pos h9]
    by_cases h : ¬ rt = 0
    · rw [if_pos h]
      exact fun _ => Or.inl rfl
    · rw [if_neg h]
      exact fun z => absurd rfl z
  rw [if_neg h9]
  by_cases h10 : k = 17 ∨ 21 ≤ k
  · rw [if_pos h10]
    by_cases h : rt = 0
    · rw [if_pos h]
      exact fun _ => Or.inl rfl
    · rw [if_neg h]
      exact fun z => absurd rfl z
  rw [if_neg h10]
  by_cases h : lt = 0 ∧ rt = 0
  · rw [if_pos h]
    exact fun _ => Or.inl rfl
  · rw [if_neg h]
    exact fun z => absurd rfl z
