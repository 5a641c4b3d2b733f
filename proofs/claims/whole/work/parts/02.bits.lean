/-! bits: small tests, masks, or-folds; X's and Y's operations as pure functions and their bits -/
theorem rf_ext {x y : Int32} (h : ∀ i, i < 32 → (bt x i = true ↔ bt y i = true)) : x = y :=
  b_ext (fun i hi => Bool.eq_iff_iff.mpr (h i hi))
theorem rf_b1 : ∀ i, i < 32 → bt 1 i = decide (i = 0) := by decide +kernel
theorem rf_b15 : ∀ i, i < 32 → bt 15 i = decide (i < 4) := by decide +kernel
theorem rf_or0 (x : Int32) : x ||| 0 = x := b_ext (fun i _ => by rw [b_or, b_0, Bool.or_false])
theorem rf_0or (x : Int32) : 0 ||| x = x := b_ext (fun i _ => by rw [b_or, b_0, Bool.false_or])
theorem rf_and1 (y : Int32) : y &&& 1 = if bt y 0 = true then 1 else 0 := by
  apply b_ext
  intro i hi
  rw [b_and, rf_b1 i hi]
  by_cases h0 : i = 0
  · subst h0
    by_cases hb : bt y 0 = true
    · rw [if_pos hb, hb]
      decide +kernel
    · rw [if_neg hb, Bool.eq_false_iff.mpr hb]
      decide +kernel
  · rw [decide_eq_false h0, Bool.and_false]
    split
    · rw [rf_b1 i hi, decide_eq_false h0]
    · exact (b_0 i).symm
theorem rf_bit (x : Int32) (k : Nat) (hk : k < 32) : (x >>> (nI k &&& 31)) &&& 1 = if bt x k = true then 1 else 0 := by
  rw [rf_and1, b_sshr k hk x (i := 0) (by omega), if_pos (by omega : k + 0 < 32), Nat.add_zero]
theorem rf_bz (x : Int32) (k : Nat) (hk : k < 32) : (x >>> (nI k &&& 31)) &&& 1 = 0 ↔ ¬ bt x k = true := by
  rw [rf_bit x k hk]
  by_cases h : bt x k = true
  · rw [if_pos h]
    exact ⟨fun z => absurd z (by decide), fun z => absurd h z⟩
  · rw [if_neg h]
    exact ⟨fun _ => h, fun _ => rfl⟩
theorem rf_bo (x : Int32) (k : Nat) (hk : k < 32) : (x >>> (nI k &&& 31)) &&& 1 = 1 ↔ bt x k = true := by
  rw [rf_bit x k hk]
  by_cases h : bt x k = true
  · rw [if_pos h]
    exact ⟨fun _ => h, fun _ => rfl⟩
  · rw [if_neg h]
    exact ⟨fun z => absurd z (by decide), fun z => absurd z h⟩
theorem rf_sb (k : Nat) (hk : k < 32) (i : Nat) (hi : i < 32) : bt ((1 : Int32) <<< (nI k &&& 31)) i = true ↔ i = k := by
  rw [b_shl k hk 1 hi, rf_b1 (i - k) (by omega), Bool.and_eq_true, decide_eq_true_eq, decide_eq_true_eq]
  omega
theorem rf_shl (x : Int32) (k : Nat) (hk : k < 32) (i : Nat) (hi : i < 32) : bt (x <<< (nI k &&& 31)) i = true ↔ k ≤ i ∧ bt x (i - k) = true := by
  rw [b_shl k hk x hi, Bool.and_eq_true, decide_eq_true_eq]
theorem rf_row (x : Int32) (k : Nat) (hk : k + 3 < 32) (i : Nat) (hi : i < 32) : bt ((x >>> (nI k &&& 31)) &&& 15) i = true ↔ i < 4 ∧ bt x (k + i) = true := by
  rw [b_and, rf_b15 i hi, b_sshr k (by omega) x hi, Bool.and_eq_true, decide_eq_true_eq]
  constructor
  · rintro ⟨h1, h2⟩
    rw [if_pos (by omega)] at h1
    exact ⟨h2, h1⟩
  · rintro ⟨h1, h2⟩
    rw [if_pos (by omega)]
    exact ⟨h2, h1⟩
theorem rf_z (x : Int32) : x = 0 ↔ ∀ i, i < 32 → ¬ bt x i = true := by
  constructor
  · intro h i _
    rw [h, b_0]
    decide
  · intro h
    exact rf_ext (fun i hi => ⟨fun z => absurd z (h i hi), fun z => by rw [b_0] at z; exact absurd z (by decide)⟩)
theorem rf_ifb {c : Prop} [Decidable c] (t : Int32) (i : Nat) : bt (if c then t else 0) i = true ↔ c ∧ bt t i = true := by
  by_cases h : c
  · rw [if_pos h]
    exact ⟨fun z => ⟨h, z⟩, fun z => z.2⟩
  · rw [if_neg h, b_0]
    exact ⟨fun z => absurd z (by decide), fun z => absurd z.1 h⟩
def rf_it {σ : Type} (F : Nat → σ → σ) (s : σ) : Nat → σ
  | 0 => s
  | k + 1 => F k (rf_it F s k)
def rf_o1 (z : Int32) (f : Nat → Int32) : Nat → Int32
  | 0 => z
  | k + 1 => rf_o1 z f k ||| f k
def rf_o2 (z : Int32) (f : Nat → Nat → Int32) (m : Nat) : Nat → Int32
  | 0 => z
  | k + 1 => rf_o1 (rf_o2 z f m k) (f k) m
theorem rf_o1b (z : Int32) (f : Nat → Int32) (i : Nat) : ∀ n, bt (rf_o1 z f n) i = true ↔ bt z i = true ∨ ∃ k, k < n ∧ bt (f k) i = true := by
  intro n
  induction n with
  | zero => exact ⟨Or.inl, fun h => h.elim id (fun ⟨k, hk, _⟩ => absurd hk (Nat.not_lt_zero k))⟩
  | succ n ih =>
    show bt (rf_o1 z f n ||| f n) i = true ↔ _
    rw [b_or, Bool.or_eq_true, ih]
    constructor
    · rintro ((h | ⟨k, hk, h⟩) | h)
      · exact Or.inl h
      · exact Or.inr ⟨k, by omega, h⟩
      · exact Or.inr ⟨n, by omega, h⟩
    · rintro (h | ⟨k, hk, h⟩)
      · exact Or.inl (Or.inl h)
      · rcases Nat.lt_or_eq_of_le (Nat.le_of_lt_succ hk) with q | q
        · exact Or.inl (Or.inr ⟨k, q, h⟩)
        · subst q
          exact Or.inr h
theorem rf_o2b (z : Int32) (f : Nat → Nat → Int32) (m i : Nat) : ∀ n, bt (rf_o2 z f m n) i = true ↔ bt z i = true ∨ ∃ k, k < n ∧ ∃ j, j < m ∧ bt (f k j) i = true := by
  intro n
  induction n with
  | zero => exact ⟨Or.inl, fun h => h.elim id (fun ⟨k, hk, _⟩ => absurd hk (Nat.not_lt_zero k))⟩
  | succ n ih =>
    show bt (rf_o1 (rf_o2 z f m n) (f n) m) i = true ↔ _
    rw [rf_o1b, ih]
    constructor
    · rintro ((h | ⟨k, hk, h⟩) | ⟨j, hj, h⟩)
      · exact Or.inl h
      · exact Or.inr ⟨k, by omega, h⟩
      · exact Or.inr ⟨n, by omega, j, hj, h⟩
    · rintro (h | ⟨k, hk, h⟩)
      · exact Or.inl (Or.inl h)
      · rcases Nat.lt_or_eq_of_le (Nat.le_of_lt_succ hk) with q | q
        · exact Or.inl (Or.inr ⟨k, q, h⟩)
        · subst q
          exact Or.inr h
theorem rf_no0 {i : Nat} (h : bt 0 i = true) : False := by
  rw [b_0] at h
  exact absurd h (by decide)
/-! validity -/
def rf_vU (N : Nat) (x : Int32) : Prop := ∀ i, i < 32 → bt x i = true → i < N
def rf_vB (N : Nat) (x : Int32) : Prop := ∀ i, i < 32 → bt x i = true → i < 16 ∧ i / 4 < N ∧ i % 4 < N
/-! X's operations -/
def rf_im (s p : Int32) : Int32 := rf_o1 0 (fun a => if bt s a = true then (p >>> (nI (a * 4) &&& 31)) &&& 15 else 0) 4
def rf_pre (p s : Int32) : Int32 := rf_o1 0 (fun a => if ¬ ((p >>> (nI (a * 4) &&& 31)) &&& s = 0) then (1 : Int32) <<< (nI a &&& 31) else 0) 4
def rf_co (l r : Int32) : Int32 := rf_o1 0 (fun a => rf_im ((l >>> (nI (a * 4) &&& 31)) &&& 15) r <<< (nI (a * 4) &&& 31)) 4
def rf_pr (l r : Int32) : Int32 := rf_o1 0 (fun a => if bt l a = true then r <<< (nI (a * 4) &&& 31) else 0) 4
def rf_tr (p : Int32) : Int32 := rf_o2 0 (fun a b => ((p >>> (nI (a * 4 + b) &&& 31)) &&& 1) <<< (nI (b * 4 + a) &&& 31)) 4 4
def rf_ws (via : Nat) (c : Int32) : Int32 := rf_it (fun a d => if bt d (a * 4 + via) = true then d ||| (((c >>> (nI (via * 4) &&& 31)) &&& 15) <<< (nI (a * 4) &&& 31)) else d) c 4
def rf_wc (c : Int32) : Nat → Int32 := rf_it rf_ws c
def rf_id (N : Nat) : Int32 := rf_o1 0 (fun a => (1 : Int32) <<< (nI (a * 5) &&& 31)) N
/-! Y's operations -/
def rf_yc (N : Nat) (x y : Int32) : Int32 := rf_o2 0 (fun a b => if bt x (a * 4 + b) = true then ((y >>> (nI (b * 4) &&& 31)) &&& 15) <<< (nI (a * 4) &&& 31) else 0) N N
def rf_y0 (N : Nat) (l r : Int32) : Int32 := rf_o2 0 (fun a b => if bt l a = true ∧ bt r (a * 4 + b) = true then (1 : Int32) <<< (nI b &&& 31) else 0) N N
def rf_y1 (N : Nat) (l r : Int32) : Int32 := rf_o2 0 (fun a b => if bt l (a * 4 + b) = true ∧ bt r b = true then (1 : Int32) <<< (nI a &&& 31) else 0) N N
def rf_y2 (N : Nat) (l r : Int32) : Int32 := rf_o2 0 (fun a b => if bt l a = true ∧ bt r b = true then (1 : Int32) <<< (nI (a * 4 + b) &&& 31) else 0) N N
def rf_y3 (N : Nat) (l : Int32) : Int32 := rf_o2 0 (fun a b => if bt l (a * 4 + b) = true then (1 : Int32) <<< (nI (b * 4 + a) &&& 31) else 0) N N
def rf_yk (N : Nat) (c : Int32) : Nat → Int32 := rf_it (fun _ d => d ||| rf_yc N d d) c
/-! their bits -/
theorem rf_imb (s p : Int32) (i : Nat) (hi : i < 32) : bt (rf_im s p) i = true ↔ i < 4 ∧ ∃ a, a < 4 ∧ bt s a = true ∧ bt p (a * 4 + i) = true := by
  unfold rf_im
  rw [rf_o1b]
  constructor
  · rintro (h | ⟨a, ha, h⟩)
    · exact (rf_no0 h).elim
    · obtain ⟨hs, h⟩ := (rf_ifb _ i).mp h
      obtain ⟨h4, h⟩ := (rf_row p (a * 4) (by omega) i hi).mp h
      exact ⟨h4, a, ha, hs, h⟩
  · rintro ⟨h4, a, ha, hs, h⟩
    exact Or.inr ⟨a, ha, (rf_ifb _ i).mpr ⟨hs, (rf_row p (a * 4) (by omega) i hi).mpr ⟨h4, h⟩⟩⟩
theorem rf_preb {N : Nat} (hN : N ≤ 4) (p s : Int32) (hs : rf_vU N s) (i : Nat) (hi : i < 32) : bt (rf_pre p s) i = true ↔ i < 4 ∧ ∃ b, b < 4 ∧ bt p (i * 4 + b) = true ∧ bt s b = true := by
  unfold rf_pre
  rw [rf_o1b]
  constructor
  · rintro (h | ⟨a, ha, h⟩)
    · exact (rf_no0 h).elim
    · obtain ⟨hz, h⟩ := (rf_ifb _ i).mp h
      have e := (rf_sb a (by omega) i hi).mp h
      subst e
      refine ⟨ha, ?_⟩
      apply Classical.byContradiction
      intro hn
      apply hz
      rw [rf_z]
      intro j hj hb
      rw [b_and, Bool.and_eq_true] at hb
      have hj4 := hs j hj hb.2
      rw [b_sshr (i * 4) (by omega) p hj, if_pos (by omega)] at hb
      exact hn ⟨j, by omega, hb.1, hb.2⟩
  · rintro ⟨h4, b, hb, h1, h2⟩
    refine Or.inr ⟨i, h4, (rf_ifb _ i).mpr ⟨?_, (rf_sb i (by omega) i hi).mpr rfl⟩⟩
    intro hz
    rw [rf_z] at hz
    apply hz b (by omega)
    rw [b_and, Bool.and_eq_true, b_sshr (i * 4) (by omega) p (by omega), if_pos (by omega)]
    exact ⟨h1, h2⟩
theorem rf_cob (l r : Int32) (i : Nat) (hi : i < 32) : bt (rf_co l r) i = true ↔ i < 16 ∧ ∃ c, c < 4 ∧ bt l (i / 4 * 4 + c) = true ∧ bt r (c * 4 + i % 4) = true := by
  unfold rf_co
  rw [rf_o1b]
  constructor
  · rintro (h | ⟨a, ha, h⟩)
    · exact (rf_no0 h).elim
    · obtain ⟨h1, h⟩ := (rf_shl _ (a * 4) (by omega) i hi).mp h
      obtain ⟨h4, c, hc, h2, h3⟩ := (rf_imb _ r (i - a * 4) (by omega)).mp h
      obtain ⟨_, h2⟩ := (rf_row l (a * 4) (by omega) c (by omega)).mp h2
      have ea : i / 4 = a := by omega
      have em : i % 4 = i - a * 4 := by omega
      rw [ea, em]
      exact ⟨by omega, c, hc, h2, h3⟩
  · rintro ⟨h16, c, hc, h1, h2⟩
    refine Or.inr ⟨i / 4, by omega, (rf_shl _ (i / 4 * 4) (by omega) i hi).mpr ⟨by omega, (rf_imb _ r (i - i / 4 * 4) (by omega)).mpr ⟨by omega, c, hc, (rf_row l (i / 4 * 4) (by omega) c (by omega)).mpr ⟨hc, h1⟩, ?_⟩⟩⟩
    have em : i - i / 4 * 4 = i % 4 := by omega
    rw [em]
    exact h2
theorem rf_prb {N : Nat} (hN : N ≤ 4) (l r : Int32) (hr : rf_vU N r) (i : Nat) (hi : i < 32) : bt (rf_pr l r) i = true ↔ i < 16 ∧ bt l (i / 4) = true ∧ bt r (i % 4) = true := by
  unfold rf_pr
  rw [rf_o1b]
  constructor
  · rintro (h | ⟨a, ha, h⟩)
    · exact (rf_no0 h).elim
    · obtain ⟨h1, h⟩ := (rf_ifb _ i).mp h
      obtain ⟨h2, h3⟩ := (rf_shl r (a * 4) (by omega) i hi).mp h
      have h4 := hr (i - a * 4) (by omega) h3
      have ea : i / 4 = a := by omega
      have em : i % 4 = i - a * 4 := by omega
      rw [ea, em]
      exact ⟨by omega, h1, h3⟩
  · rintro ⟨h16, h1, h2⟩
    refine Or.inr ⟨i / 4, by omega, (rf_ifb _ i).mpr ⟨h1, (rf_shl r (i / 4 * 4) (by omega) i hi).mpr ⟨by omega, ?_⟩⟩⟩
    have em : i - i / 4 * 4 = i % 4 := by omega
    rw [em]
    exact h2
theorem rf_trb (p : Int32) (i : Nat) (hi : i < 32) : bt (rf_tr p) i = true ↔ i < 16 ∧ bt p (i % 4 * 4 + i / 4) = true := by
  unfold rf_tr
  rw [rf_o2b]
  constructor
  · rintro (h | ⟨a, ha, b, hb, h⟩)
    · exact (rf_no0 h).elim
    · obtain ⟨h1, h⟩ := (rf_shl _ (b * 4 + a) (by omega) i hi).mp h
      rw [rf_bit p (a * 4 + b) (by omega)] at h
      obtain ⟨h2, h⟩ := (rf_ifb _ _).mp h
      rw [rf_b1 _ (by omega), decide_eq_true_eq] at h
      have ea : i / 4 = b := by omega
      have em : i % 4 = a := by omega
      rw [ea, em]
      exact ⟨by omega, h2⟩
  · rintro ⟨h16, h⟩
    refine Or.inr ⟨i % 4, by omega, i / 4, by omega, (rf_shl _ (i / 4 * 4 + i % 4) (by omega) i hi).mpr ⟨by omega, ?_⟩⟩
    rw [rf_bit p (i % 4 * 4 + i / 4) (by omega)]
    refine (rf_ifb _ _).mpr ⟨h, ?_⟩
    rw [rf_b1 _ (by omega), decide_eq_true_eq]
    omega
