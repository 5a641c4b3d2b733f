/-! Y's assignment, cell by cell -/
def rf_cb (N : Nat) (ar md : Nat → Int32) (F : Nat) (c : Int32) (q t : Nat) (x : Nat) : Int32 := if x < q then rf_as N ar md F c x else if x = q then rf_ap N ar md F c q (rf_rh (ar q) t) else 0
def rf_cy (N : Nat) (ar md : Nat → Int32) (F : Nat) (c : Int32) (q t : Nat) (cr : Nat → Int32) : Prop := ∀ x, x < 4 → cr x = rf_cb N ar md F c q t x
theorem rf_cy0 {N : Nat} {ar md : Nat → Int32} {F : Nat} {c : Int32} {cr : Nat → Int32} (h : ∀ x, x < 4 → cr x = 0) : rf_cy N ar md F c 0 0 cr := by
  intro x hx
  rw [h x hx]
  unfold rf_cb
  rw [if_neg (by omega), rf_rh0]
  split
  · rfl
  · rfl
theorem rf_cyq {N : Nat} (hN : N ≤ 4) {ar md : Nat → Int32} {F : Nat} {c : Int32} {q : Nat} {cr : Nat → Int32} (h : rf_cy N ar md F c q 16 cr) : rf_cy N ar md F c (q + 1) 0 cr := by
  intro x hx
  rw [h x hx]
  unfold rf_cb
  rw [rf_rh0]
  by_cases h1 : x < q
  · rw [if_pos h1, if_pos (by omega)]
  · rw [if_neg h1]
    by_cases h2 : x = q
    · rw [if_pos h2, if_pos (by omega), h2]
      exact rf_ap16 hN ar md F c q
    · rw [if_neg h2, if_neg (by omega)]
      split
      · rfl
      · rfl
theorem rf_cyn {N : Nat} {ar md : Nat → Int32} {F : Nat} {c : Int32} {q t : Nat} {cr : Nat → Int32} (ht : t < 16) (hv : ¬ rf_va N (ar q) t = true) (h : rf_cy N ar md F c q t cr) : rf_cy N ar md F c q (t + 1) cr := by
  intro x hx
  rw [h x hx]
  unfold rf_cb
  rcases rf_rhn ht hv with e | ⟨e, h2, h3⟩
  · rw [e]
  · rw [e]
    show _ = if x < q then rf_as N ar md F c x else if x = q then rf_ap N ar md F c q (rf_rh (ar q) t) ||| (if rf_on N ar md F c q (rf_rh (ar q) t) = true then (1 : Int32) <<< (nI (rf_rh (ar q) t) &&& 31) else 0) else 0
    rw [if_neg (fun z => h2 (rf_onv z)), rf_or0]
theorem rf_cyo {N : Nat} (hN : N ≤ 4) {ar md : Nat → Int32} {F : Nat} {c : Int32} {q t : Nat} {cr : Nat → Int32} (ht : t < 16) (hv : rf_va N (ar q) t = true) (ho : ¬ rf_on N ar md F c q (rf_rh (ar q) t) = true) (h : rf_cy N ar md F c q t cr) : rf_cy N ar md F c q (t + 1) cr := by
  intro x hx
  rw [h x hx]
  unfold rf_cb
  rw [(rf_rhv hN ht hv).1]
  show _ = if x < q then rf_as N ar md F c x else if x = q then rf_ap N ar md F c q (rf_rh (ar q) t) ||| (if rf_on N ar md F c q (rf_rh (ar q) t) = true then (1 : Int32) <<< (nI (rf_rh (ar q) t) &&& 31) else 0) else 0
  rw [if_neg ho, rf_or0]
theorem rf_cyt {N : Nat} (hN : N ≤ 4) {ar md : Nat → Int32} {F : Nat} {c : Int32} {q t : Nat} {cr : Nat → Int32} (hq : q < 4) (ht : t < 16) (hv : rf_va N (ar q) t = true) (ho : rf_on N ar md F c q (rf_rh (ar q) t) = true) (h : rf_cy N ar md F c q t cr) : rf_cy N ar md F c q (t + 1) (upd cr q (cr q ||| (1 : Int32) <<< (nI (if ar q = 1 then t / 4 else t) &&& 31))) := by
  intro x hx
  obtain ⟨e1, e2, e3, e4, e5⟩ := rf_rhv hN ht hv
  by_cases e : x = q
  · subst e
    rw [pk_us, h x hx, ← e5]
    unfold rf_cb
    rw [e1]
    show _ = if x < x then rf_as N ar md F c x else if x = x then rf_ap N ar md F c x (rf_rh (ar x) t) ||| (if rf_on N ar md F c x (rf_rh (ar x) t) = true then (1 : Int32) <<< (nI (rf_rh (ar x) t) &&& 31) else 0) else 0
    rw [if_neg (Nat.lt_irrefl x), if_neg (Nat.lt_irrefl x), if_pos rfl, if_pos rfl, if_pos ho]
  · rw [pk_un e, h x hx]
    unfold rf_cb
    rw [if_neg e, if_neg e]
theorem rf_cye {N R : Nat} {ar md : Nat → Int32} {F : Nat} {c : Int32} {cr : Nat → Int32} (hR : R ≤ 4) (h : rf_cy N ar md F c R 0 cr) : ∀ q, q < R → cr q = rf_as N ar md F c q := by
  intro q hq
  rw [h q (by omega)]
  exact if_pos hq
/-- what Y's cell asks -/
theorem rf_onc {N : Nat} (hN : N ≤ 4) {ar md : Nat → Int32} {F : Nat} {c : Int32} {q t : Nat} (ht : t < 16) (hv : rf_va N (ar q) t = true) : rf_on N ar md F c q (rf_rh (ar q) t) = true ↔ md (q * 16 + t) = 1 ∨ (md (q * 16 + t) = 0 ∧ bt c (F - 1 - rf_ct N ar md q t) = true) := by
  obtain ⟨e1, e2, e3, e4, e5⟩ := rf_rhv hN ht hv
  unfold rf_on
  rw [e3, e2, Bool.true_and, Bool.or_eq_true, Bool.and_eq_true, decide_eq_true_eq, decide_eq_true_eq]
  exact Iff.rfl
