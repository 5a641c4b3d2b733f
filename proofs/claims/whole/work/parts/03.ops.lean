/-! Y's operations by their bits, and X's = Y's on valid values -/
theorem rf_ycb {N : Nat} (hN : N ≤ 4) (x y : Int32) (i : Nat) (hi : i < 32) : bt (rf_yc N x y) i = true ↔ i < 16 ∧ i / 4 < N ∧ ∃ b, b < N ∧ bt x (i / 4 * 4 + b) = true ∧ bt y (b * 4 + i % 4) = true := by
  unfold rf_yc
  rw [rf_o2b]
  constructor
  · rintro (h | ⟨a, ha, b, hb, h⟩)
    · exact (rf_no0 h).elim
    · obtain ⟨h1, h⟩ := (rf_ifb _ i).mp h
      obtain ⟨h2, h⟩ := (rf_shl _ (a * 4) (by omega) i hi).mp h
      obtain ⟨h3, h⟩ := (rf_row y (b * 4) (by omega) (i - a * 4) (by omega)).mp h
      have ea : i / 4 = a := by omega
      have em : i % 4 = i - a * 4 := by omega
      rw [ea, em]
      exact ⟨by omega, ha, b, hb, h1, h⟩
  · rintro ⟨h16, ha, b, hb, h1, h2⟩
    refine Or.inr ⟨i / 4, ha, b, hb, (rf_ifb _ i).mpr ⟨h1, (rf_shl _ (i / 4 * 4) (by omega) i hi).mpr ⟨by omega, (rf_row y (b * 4) (by omega) (i - i / 4 * 4) (by omega)).mpr ⟨by omega, ?_⟩⟩⟩⟩
    have em : i - i / 4 * 4 = i % 4 := by omega
    rw [em]
    exact h2
theorem rf_y0b {N : Nat} (hN : N ≤ 4) (l r : Int32) (i : Nat) (hi : i < 32) : bt (rf_y0 N l r) i = true ↔ i < N ∧ ∃ a, a < N ∧ bt l a = true ∧ bt r (a * 4 + i) = true := by
  unfold rf_y0
  rw [rf_o2b]
  constructor
  · rintro (h | ⟨a, ha, b, hb, h⟩)
    · exact (rf_no0 h).elim
    · obtain ⟨⟨h1, h2⟩, h⟩ := (rf_ifb _ i).mp h
      have e := (rf_sb b (by omega) i hi).mp h
      subst e
      exact ⟨hb, a, ha, h1, h2⟩
  · rintro ⟨hb, a, ha, h1, h2⟩
    exact Or.inr ⟨a, ha, i, hb, (rf_ifb _ i).mpr ⟨⟨h1, h2⟩, (rf_sb i (by omega) i hi).mpr rfl⟩⟩
theorem rf_y1b {N : Nat} (hN : N ≤ 4) (l r : Int32) (i : Nat) (hi : i < 32) : bt (rf_y1 N l r) i = true ↔ i < N ∧ ∃ b, b < N ∧ bt l (i * 4 + b) = true ∧ bt r b = true := by
  unfold rf_y1
  rw [rf_o2b]
  constructor
  · rintro (h | ⟨a, ha, b, hb, h⟩)
    · exact (rf_no0 h).elim
    · obtain ⟨⟨h1, h2⟩, h⟩ := (rf_ifb _ i).mp h
      have e := (rf_sb a (by omega) i hi).mp h
      subst e
      exact ⟨ha, b, hb, h1, h2⟩
  · rintro ⟨ha, b, hb, h1, h2⟩
    exact Or.inr ⟨i, ha, b, hb, (rf_ifb _ i).mpr ⟨⟨h1, h2⟩, (rf_sb i (by omega) i hi).mpr rfl⟩⟩
theorem rf_y2b {N : Nat} (hN : N ≤ 4) (l r : Int32) (i : Nat) (hi : i < 32) : bt (rf_y2 N l r) i = true ↔ i < 16 ∧ i / 4 < N ∧ i % 4 < N ∧ bt l (i / 4) = true ∧ bt r (i % 4) = true := by
  unfold rf_y2
  rw [rf_o2b]
  constructor
  · rintro (h | ⟨a, ha, b, hb, h⟩)
    · exact (rf_no0 h).elim
    · obtain ⟨⟨h1, h2⟩, h⟩ := (rf_ifb _ i).mp h
      have e := (rf_sb (a * 4 + b) (by omega) i hi).mp h
      have ea : i / 4 = a := by omega
      have em : i % 4 = b := by omega
      rw [ea, em]
      exact ⟨by omega, ha, hb, h1, h2⟩
  · rintro ⟨h16, ha, hb, h1, h2⟩
    refine Or.inr ⟨i / 4, ha, i % 4, hb, (rf_ifb _ i).mpr ⟨⟨h1, h2⟩, (rf_sb (i / 4 * 4 + i % 4) (by omega) i hi).mpr (by omega)⟩⟩
theorem rf_y3b {N : Nat} (hN : N ≤ 4) (l : Int32) (i : Nat) (hi : i < 32) : bt (rf_y3 N l) i = true ↔ i < 16 ∧ i / 4 < N ∧ i % 4 < N ∧ bt l (i % 4 * 4 + i / 4) = true := by
  unfold rf_y3
  rw [rf_o2b]
  constructor
  · rintro (h | ⟨a, ha, b, hb, h⟩)
    · exact (rf_no0 h).elim
    · obtain ⟨h1, h⟩ := (rf_ifb _ i).mp h
      have e := (rf_sb (b * 4 + a) (by omega) i hi).mp h
      have ea : i / 4 = b := by omega
      have em : i % 4 = a := by omega
      rw [ea, em]
      exact ⟨by omega, hb, ha, h1⟩
  · rintro ⟨h16, ha, hb, h1⟩
    refine Or.inr ⟨i % 4, hb, i / 4, ha, (rf_ifb _ i).mpr ⟨h1, (rf_sb (i / 4 * 4 + i % 4) (by omega) i hi).mpr (by omega)⟩⟩
theorem rf_imE {N : Nat} (hN : N ≤ 4) (l r : Int32) (hr : rf_vB N r) : rf_im l r = rf_y0 N l r := by
  apply rf_ext
  intro i hi
  rw [rf_imb l r i hi, rf_y0b hN l r i hi]
  constructor
  · rintro ⟨h4, a, ha, h1, h2⟩
    have := hr (a * 4 + i) (by omega) h2
    exact ⟨by omega, a, by omega, h1, h2⟩
  · rintro ⟨h4, a, ha, h1, h2⟩
    exact ⟨by omega, a, by omega, h1, h2⟩
theorem rf_preE {N : Nat} (hN : N ≤ 4) (l r : Int32) (hl : rf_vB N l) (hr : rf_vU N r) : rf_pre l r = rf_y1 N l r := by
  apply rf_ext
  intro i hi
  rw [rf_preb hN l r hr i hi, rf_y1b hN l r i hi]
  constructor
  · rintro ⟨h4, a, ha, h1, h2⟩
    have := hl (i * 4 + a) (by omega) h1
    exact ⟨by omega, a, by omega, h1, h2⟩
  · rintro ⟨h4, a, ha, h1, h2⟩
    exact ⟨by omega, a, by omega, h1, h2⟩
theorem rf_coE {N : Nat} (hN : N ≤ 4) (l r : Int32) (hl : rf_vB N l) : rf_co l r = rf_yc N l r := by
  apply rf_ext
  intro i hi
  rw [rf_cob l r i hi, rf_ycb hN l r i hi]
  constructor
  · rintro ⟨h4, a, ha, h1, h2⟩
    have := hl (i / 4 * 4 + a) (by omega) h1
    exact ⟨by omega, by omega, a, by omega, h1, h2⟩
  · rintro ⟨h4, _, a, ha, h1, h2⟩
    exact ⟨by omega, a, by omega, h1, h2⟩
theorem rf_prE {N : Nat} (hN : N ≤ 4) (l r : Int32) (hl : rf_vU N l) (hr : rf_vU N r) : rf_pr l r = rf_y2 N l r := by
  apply rf_ext
  intro i hi
  rw [rf_prb hN l r hr i hi, rf_y2b hN l r i hi]
  constructor
  · rintro ⟨h4, h1, h2⟩
    have := hl (i / 4) (by omega) h1
    have := hr (i % 4) (by omega) h2
    exact ⟨by omega, by omega, by omega, h1, h2⟩
  · rintro ⟨h4, _, _, h1, h2⟩
    exact ⟨by omega, h1, h2⟩
theorem rf_trE {N : Nat} (hN : N ≤ 4) (l : Int32) (hl : rf_vB N l) : rf_tr l = rf_y3 N l := by
  apply rf_ext
  intro i hi
  rw [rf_trb l i hi, rf_y3b hN l i hi]
  constructor
  · rintro ⟨h4, h1⟩
    have := hl (i % 4 * 4 + i / 4) (by omega) h1
    exact ⟨by omega, by omega, by omega, h1⟩
  · rintro ⟨h4, _, _, h1⟩
    exact ⟨by omega, h1⟩
/-! the closure -/
theorem rf_wsi (via : Nat) (hv : via < 4) (c : Int32) : ∀ k, k ≤ 4 → ∀ i, i < 32 →
    (bt (rf_it (fun a d => if bt d (a * 4 + via) = true then d ||| (((c >>> (nI (via * 4) &&& 31)) &&& 15) <<< (nI (a * 4) &&& 31)) else d) c k) i = true
      ↔ bt c i = true ∨ (i < k * 4 ∧ bt c (i / 4 * 4 + via) = true ∧ bt c (via * 4 + i % 4) = true)) := by
  intro k
  induction k with
  | zero =>
    intro _ i _
    exact ⟨Or.inl, fun h => h.elim id (fun z => absurd z.1 (by omega))⟩
  | succ k ih =>
    intro hk i hi
    have ih := ih (by omega)
    have ht := ih (k * 4 + via) (by omega)
    have hd := ih i hi
    show bt (if bt (rf_it _ c k) (k * 4 + via) = true then rf_it _ c k ||| _ else rf_it _ c k) i = true ↔ _
    generalize rf_it (fun a d => if bt d (a * 4 + via) = true then d ||| (((c >>> (nI (via * 4) &&& 31)) &&& 15) <<< (nI (a * 4) &&& 31)) else d) c k = d at ht hd ⊢
    have ht' : bt d (k * 4 + via) = true ↔ bt c (k * 4 + via) = true := by
      rw [ht]
      exact ⟨fun h => h.elim id (fun z => absurd z.1 (by omega)), Or.inl⟩
    by_cases hb : bt d (k * 4 + via) = true
    · have hc := ht'.mp hb
      rw [if_pos hb, b_or, Bool.or_eq_true, hd, rf_shl _ (k * 4) (by omega) i hi]
      constructor
      · rintro ((h | ⟨h1, h2, h3⟩) | ⟨h1, h2⟩)
        · exact Or.inl h
        · exact Or.inr ⟨by omega, h2, h3⟩
        · obtain ⟨h3, h4⟩ := (rf_row c (via * 4) (by omega) (i - k * 4) (by omega)).mp h2
          have ea : i / 4 = k := by omega
          have em : i % 4 = i - k * 4 := by omega
          rw [ea, em]
          exact Or.inr ⟨by omega, hc, h4⟩
      · rintro (h | ⟨h1, h2, h3⟩)
        · exact Or.inl (Or.inl h)
        · by_cases hq : i < k * 4
          · exact Or.inl (Or.inr ⟨hq, h2, h3⟩)
          · refine Or.inr ⟨by omega, (rf_row c (via * 4) (by omega) (i - k * 4) (by omega)).mpr ⟨by omega, ?_⟩⟩
            have em : i - k * 4 = i % 4 := by omega
            rw [em]
            exact h3
    · rw [if_neg hb, hd]
      constructor
      · rintro (h | ⟨h1, h2, h3⟩)
        · exact Or.inl h
        · exact Or.inr ⟨by omega, h2, h3⟩
      · rintro (h | ⟨h1, h2, h3⟩)
        · exact Or.inl h
        · by_cases hq : i < k * 4
          · exact Or.inr ⟨hq, h2, h3⟩
          · have ea : i / 4 = k := by omega
            rw [ea] at h2
            exact absurd (ht'.mpr h2) hb
theorem rf_wsb (via : Nat) (hv : via < 4) (c : Int32) (i : Nat) (hi : i < 32) : bt (rf_ws via c) i = true ↔ bt c i = true ∨ (i < 16 ∧ bt c (i / 4 * 4 + via) = true ∧ bt c (via * 4 + i % 4) = true) :=
  rf_wsi via hv c 4 (by omega) i hi
theorem rf_ykb {N : Nat} (hN : N ≤ 4) (c : Int32) (k i : Nat) (hi : i < 32) : bt (rf_yk N c (k + 1)) i = true ↔ bt (rf_yk N c k) i = true ∨ (i < 16 ∧ i / 4 < N ∧ ∃ b, b < N ∧ bt (rf_yk N c k) (i / 4 * 4 + b) = true ∧ bt (rf_yk N c k) (b * 4 + i % 4) = true) := by
  show bt (rf_yk N c k ||| rf_yc N (rf_yk N c k) (rf_yk N c k)) i = true ↔ _
  rw [b_or, Bool.or_eq_true, rf_ycb hN _ _ i hi]
theorem rf_wcs (c : Int32) (k : Nat) : rf_wc c (k + 1) = rf_ws k (rf_wc c k) := rfl
theorem rf_wcv {N : Nat} (hN : N ≤ 4) (c : Int32) (hc : rf_vB N c) : ∀ k, k ≤ 4 → rf_vB N (rf_wc c k) := by
  intro k
  induction k with
  | zero => exact fun _ => hc
  | succ k ih =>
    intro hk i hi h
    have ih := ih (by omega)
    rw [rf_wcs] at h
    rcases (rf_wsb k (by omega) _ i hi).mp h with h | ⟨h1, h2, h3⟩
    · exact ih i hi h
    · have a := ih _ (by omega) h2
      have b := ih _ (by omega) h3
      exact ⟨h1, by omega, by omega⟩
theorem rf_wcm (c : Int32) (k i : Nat) (hk : k < 4) (hi : i < 32) (h : bt (rf_wc c k) i = true) : bt (rf_wc c (k + 1)) i = true := by
  rw [rf_wcs]
  exact (rf_wsb k hk _ i hi).mpr (Or.inl h)
theorem rf_wc0 (c : Int32) (i : Nat) (hi : i < 32) (h : bt c i = true) : ∀ k, k ≤ 4 → bt (rf_wc c k) i = true := by
  intro k
  induction k with
  | zero => exact fun _ => h
  | succ k ih => exact fun hk => rf_wcm c k i (by omega) hi (ih (by omega))
theorem rf_wcy {N : Nat} (hN : N ≤ 4) (c : Int32) (hc : rf_vB N c) : ∀ k, k ≤ N → ∀ i, i < 32 → bt (rf_wc c k) i = true → bt (rf_yk N c k) i = true := by
  intro k
  induction k with
  | zero => exact fun _ i _ h => h
  | succ k ih =>
    intro hk i hi h
    have ih := ih (by omega)
    rw [rf_wcs] at h
    rw [rf_ykb hN c k i hi]
    rcases (rf_wsb k (by omega) _ i hi).mp h with h | ⟨h1, h2, h3⟩
    · exact Or.inl (ih i hi h)
    · have a := rf_wcv hN c hc k (by omega) _ (by omega) h2
      exact Or.inr ⟨h1, by omega, k, by omega, ih _ (by omega) h2, ih _ (by omega) h3⟩
def rf_cl (c : Int32) (j : Nat) : Prop := ∀ a b, a < 4 → b < 4 → bt c (a * 4 + j) = true → bt c (j * 4 + b) = true → bt c (a * 4 + b) = true
theorem rf_wsx (via : Nat) (hv : via < 4) (c : Int32) (a b : Nat) (ha : a < 4) (hb : b < 4) : bt (rf_ws via c) (a * 4 + b) = true ↔ bt c (a * 4 + b) = true ∨ (bt c (a * 4 + via) = true ∧ bt c (via * 4 + b) = true) := by
  rw [rf_wsb via hv c (a * 4 + b) (by omega)]
  have ea : (a * 4 + b) / 4 = a := by omega
  have em : (a * 4 + b) % 4 = b := by omega
  rw [ea, em]
  exact ⟨fun h => h.elim Or.inl (fun z => Or.inr z.2), fun h => h.elim Or.inl (fun z => Or.inr ⟨by omega, z⟩)⟩
theorem rf_clv (via : Nat) (hv : via < 4) (c : Int32) : rf_cl (rf_ws via c) via := by
  intro a b ha hb h1 h2
  rw [rf_wsx via hv c a via ha hv] at h1
  rw [rf_wsx via hv c via b hv hb] at h2
  rw [rf_wsx via hv c a b ha hb]
  have h1 := h1.elim id And.left
  have h2 := h2.elim id And.right
  exact Or.inr ⟨h1, h2⟩
theorem rf_clk (via : Nat) (hv : via < 4) (c : Int32) (j : Nat) (hj : j < 4) (h : rf_cl c j) : rf_cl (rf_ws via c) j := by
  intro a b ha hb h1 h2
  rw [rf_wsx via hv c a j ha hj] at h1
  rw [rf_wsx via hv c j b hj hb] at h2
  rw [rf_wsx via hv c a b ha hb]
  rcases h1 with h1 | ⟨h1, h1'⟩
  · rcases h2 with h2 | ⟨h2, h2'⟩
    · exact Or.inl (h a b ha hb h1 h2)
    · exact Or.inr ⟨h a via ha hv h1 h2, h2'⟩
  · rcases h2 with h2 | ⟨h2, h2'⟩
    · exact Or.inr ⟨h1, h via b hv hb h1' h2⟩
    · exact Or.inr ⟨h1, h2'⟩
theorem rf_cla (c : Int32) : ∀ k, k ≤ 4 → ∀ j, j < k → rf_cl (rf_wc c k) j := by
  intro k
  induction k with
  | zero => exact fun _ j hj => absurd hj (by omega)
  | succ k ih =>
    intro hk j hj
    rw [rf_wcs]
    by_cases e : j = k
    · subst e
      exact rf_clv j (by omega) _
    · exact rf_clk k (by omega) _ j (by omega) (ih (by omega) j (by omega))
theorem rf_yw {N : Nat} (hN : N ≤ 4) (c : Int32) : ∀ k, ∀ i, i < 32 → bt (rf_yk N c k) i = true → bt (rf_wc c 4) i = true := by
  intro k
  induction k with
  | zero => exact fun i hi h => rf_wc0 c i hi h 4 (by omega)
  | succ k ih =>
    intro i hi h
    rcases (rf_ykb hN c k i hi).mp h with h | ⟨h16, _, b, hb, h1, h2⟩
    · exact ih i hi h
    · have q := rf_cla c 4 (by omega) b (by omega) (i / 4) (i % 4) (by omega) (by omega) (ih _ (by omega) h1) (ih _ (by omega) h2)
      have e : i / 4 * 4 + i % 4 = i := by omega
      rw [e] at q
      exact q
theorem rf_wcN {N : Nat} (hN : N ≤ 4) (c : Int32) (hc : rf_vB N c) : ∀ d, N + d ≤ 4 → rf_wc c (N + d) = rf_wc c N := by
  intro d
  induction d with
  | zero => exact fun _ => rfl
  | succ d ih =>
    intro hd
    have ih := ih (by omega)
    show rf_ws (N + d) (rf_wc c (N + d)) = _
    rw [← ih]
    apply rf_ext
    intro i hi
    rw [rf_wsb (N + d) (by omega) _ i hi]
    constructor
    · rintro (h | ⟨h1, h2, h3⟩)
      · exact h
      · have := rf_wcv hN c hc (N + d) (by omega) _ (by omega) h3
        omega
    · exact Or.inl
theorem rf_clE {N : Nat} (hN : N ≤ 4) (c : Int32) (hc : rf_vB N c) : rf_wc c 4 = rf_yk N c N := by
  apply rf_ext
  intro i hi
  constructor
  · intro h
    have e := rf_wcN hN c hc (4 - N) (by omega)
    rw [show N + (4 - N) = 4 by omega] at e
    rw [e] at h
    exact rf_wcy hN c hc N (Nat.le_refl N) i hi h
  · exact rf_yw hN c N i hi
theorem rf_clV {N : Nat} (hN : N ≤ 4) (c : Int32) (hc : rf_vB N c) : rf_vB N (rf_yk N c N) := by
  rw [← rf_clE hN c hc]
  exact rf_wcv hN c hc 4 (by omega)
theorem rf_y0V {N : Nat} (hN : N ≤ 4) (l r : Int32) : rf_vU N (rf_y0 N l r) := fun i hi h => ((rf_y0b hN l r i hi).mp h).1
theorem rf_y1V {N : Nat} (hN : N ≤ 4) (l r : Int32) : rf_vU N (rf_y1 N l r) := fun i hi h => ((rf_y1b hN l r i hi).mp h).1
theorem rf_y2V {N : Nat} (hN : N ≤ 4) (l r : Int32) : rf_vB N (rf_y2 N l r) := fun i hi h => (fun z => ⟨z.1, z.2.1, z.2.2.1⟩) ((rf_y2b hN l r i hi).mp h)
theorem rf_y3V {N : Nat} (hN : N ≤ 4) (l : Int32) : rf_vB N (rf_y3 N l) := fun i hi h => (fun z => ⟨z.1, z.2.1, z.2.2.1⟩) ((rf_y3b hN l i hi).mp h)
theorem rf_ycV {N : Nat} (hN : N ≤ 4) (l r : Int32) (hr : rf_vB N r) : rf_vB N (rf_yc N l r) := by
  intro i hi h
  obtain ⟨h1, h2, b, hb, h3, h4⟩ := (rf_ycb hN l r i hi).mp h
  have := hr _ (by omega) h4
  exact ⟨h1, h2, by omega⟩
theorem rf_vUor {N : Nat} {x y : Int32} (hx : rf_vU N x) (hy : rf_vU N y) : rf_vU N (x ||| y) := by
  intro i hi h
  rw [b_or, Bool.or_eq_true] at h
  exact h.elim (hx i hi) (hy i hi)
theorem rf_vBor {N : Nat} {x y : Int32} (hx : rf_vB N x) (hy : rf_vB N y) : rf_vB N (x ||| y) := by
  intro i hi h
  rw [b_or, Bool.or_eq_true] at h
  exact h.elim (hx i hi) (hy i hi)
theorem rf_vUand {N : Nat} {x : Int32} (y : Int32) (hx : rf_vU N x) : rf_vU N (x &&& y) := by
  intro i hi h
  rw [b_and, Bool.and_eq_true] at h
  exact hx i hi h.1
theorem rf_vBand {N : Nat} {x : Int32} (y : Int32) (hx : rf_vB N x) : rf_vB N (x &&& y) := by
  intro i hi h
  rw [b_and, Bool.and_eq_true] at h
  exact hx i hi h.1
/-! leaves -/
theorem rf_idb {N : Nat} (hN : N ≤ 4) (i : Nat) (hi : i < 32) : bt (rf_id N) i = true ↔ ∃ a, a < N ∧ i = a * 5 := by
  unfold rf_id
  rw [rf_o1b]
  constructor
  · rintro (h | ⟨a, ha, h⟩)
    · exact (rf_no0 h).elim
    · exact ⟨a, ha, (rf_sb (a * 5) (by omega) i hi).mp h⟩
  · rintro ⟨a, ha, h⟩
    exact Or.inr ⟨a, ha, (rf_sb (a * 5) (by omega) i hi).mpr h⟩
theorem rf_idV {N : Nat} (hN : N ≤ 4) : rf_vB N (rf_id N) := by
  intro i hi h
  obtain ⟨a, ha, e⟩ := (rf_idb hN i hi).mp h
  omega
def rf_un (N : Nat) : Int32 := ((1 : Int32) <<< (nI N &&& 31)) - 1
theorem rf_unb : ∀ N, N < 5 → ∀ i, i < 32 → bt (rf_un N) i = decide (i < N) := by decide +kernel
theorem rf_unV {N : Nat} (hN : N ≤ 4) : rf_vU N (rf_un N) := by
  intro i hi h
  rw [rf_unb N (by omega) i hi, decide_eq_true_eq] at h
  exact h
theorem rf_sbV {N k : Nat} (hk : k < N) (hN : N ≤ 4) : rf_vU N ((1 : Int32) <<< (nI k &&& 31)) := by
  intro i hi h
  have := (rf_sb k (by omega) i hi).mp h
  omega
