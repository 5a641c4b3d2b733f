section
/-! rows pasted from kit/rows -/
theorem pk_us {f : Nat → Int32} {k : Nat} {x : Int32} : upd f k x k = x := if_pos rfl
theorem pk_un {f : Nat → Int32} {k j : Nat} {x : Int32} (h : j ≠ k) : upd f k x j = f j := if_neg h
theorem pk_sub {a b : Nat} (h : b ≤ a) : nI a - nI b = nI (a - b) := by
  obtain ⟨c, rfl⟩ : ∃ c, a = c + b := ⟨a - b, by omega⟩
  rw [← nI_add, Int32.add_sub_cancel, Nat.add_sub_cancel]
theorem pk_m1 (n : Nat) : nI (n + 1) + (-1) = nI n := by
  rw [← nI_1, Int32.add_assoc, show (1 : Int32) + (-1) = 0 from rfl, Int32.add_zero]
theorem pk_mul (a b : Nat) : nI a * nI b = nI (a * b) := (Int32.ofNat_mul a b).symm
theorem pk_ix (x : Int32) {n : Nat} (hn : n < 2 ^ 31) : x < 0 ∨ nI n ≤ x ∨ ∃ j : Nat, j < n ∧ x = nI j := by
  by_cases h : x < 0
  · exact Or.inl h
  · obtain ⟨j, hj, rfl⟩ := nI_of h
    by_cases h2 : j < n
    · exact Or.inr (Or.inr ⟨j, h2, rfl⟩)
    · exact Or.inr (Or.inl (nI_le (by omega) hj))
theorem pk_le {x y : Int32} {A B : Prop} (a b : Nat) (f : a ≤ b → A) (g : b < a → B) (hx : x = nI a := by rfl) (hy : y = nI b := by rfl) (ha : a < 2 ^ 31 := by omega) (hb : b < 2 ^ 31 := by omega) : (x ≤ y → A) ∧ (¬ x ≤ y → B) := by
  subst hx hy
  rw [nI_leI ha hb]
  exact ⟨f, fun z => g (by omega)⟩
theorem pk_lt {x y : Int32} {A B : Prop} (a b : Nat) (f : a < b → A) (g : b ≤ a → B) (hx : x = nI a := by rfl) (hy : y = nI b := by rfl) (ha : a < 2 ^ 31 := by omega) (hb : b < 2 ^ 31 := by omega) : (x < y → A) ∧ (¬ x < y → B) := by
  subst hx hy
  rw [nI_ltI ha hb]
  exact ⟨f, fun z => g (by omega)⟩
theorem pk_eq {x y : Int32} {A B : Prop} (a b : Nat) (f : a = b → A) (g : a ≠ b → B) (hx : x = nI a := by rfl) (hy : y = nI b := by rfl) (ha : a < 2 ^ 31 := by omega) (hb : b < 2 ^ 31 := by omega) : (x = y → A) ∧ (¬ x = y → B) := by
  subst hx hy
  rw [nI_eq ha hb]
  exact ⟨f, g⟩
theorem pk_in {x : Int32} (n N : Nat) (h : n < N) (hx : x = nI n := by rfl) (hN : N < 2 ^ 31 := by omega) : vp_in x N := by
  subst hx
  exact vp_in_nI h hN
theorem pk_cl {x : Int32} (n : Nat) (hx : x = nI n := by rfl) (h : n < 2 ^ 31 := by omega) : x.toNatClampNeg = n := by
  subst hx
  exact nI_clamp h
theorem pk_tn {n : Nat} (h : n < 2 ^ 32) : (nI n).toBitVec.toNat = n := Nat.mod_eq_of_lt h
theorem pk_and (x : Int32) {m : Int32} (k : Nat) (hm : m.toBitVec.toNat = 2 ^ k - 1) : x &&& m = nI (x.toBitVec.toNat % 2 ^ k) := by
  apply Int32.toBitVec_inj.mp
  apply BitVec.eq_of_toNat_eq
  rw [Int32.toBitVec_and, BitVec.toNat_and, hm, Nat.and_two_pow_sub_one_eq_mod]
  show _ = (BitVec.ofNat 32 _).toNat
  rw [BitVec.toNat_ofNat]
  exact (Nat.mod_eq_of_lt (Nat.lt_of_le_of_lt (Nat.mod_le _ _) x.toBitVec.isLt)).symm
theorem pk_andN {n : Nat} (h : n < 2 ^ 32) {m : Int32} (k : Nat) (hm : m.toBitVec.toNat = 2 ^ k - 1) : nI n &&& m = nI (n % 2 ^ k) := by
  rw [pk_and _ k hm, pk_tn h]
theorem pk_andE (x : Int32) {m : Int32} (k : Nat) (hm : m.toBitVec.toNat = 2 ^ k - 1) : ∃ j : Nat, j < 2 ^ k ∧ x &&& m = nI j := ⟨_, Nat.mod_lt _ (Nat.two_pow_pos k), pk_and x k hm⟩
theorem pk_andIn (x : Int32) {m : Int32} (k : Nat) (hm : m.toBitVec.toNat = 2 ^ k - 1) (hk : k ≤ 30) : vp_in (x &&& m) (2 ^ k) := by
  obtain ⟨j, hj, e⟩ := pk_andE x k hm
  rw [e]
  exact vp_in_nI hj (Nat.lt_of_le_of_lt (Nat.pow_le_pow_right (by decide) hk) (by decide))
theorem pk_shl (a s : Int32) (k : Nat) (hs : (s.toBitVec.smod 32).toNat = k) : (a <<< s).toBitVec.toNat = a.toBitVec.toNat * 2 ^ k % 2 ^ 32 := by
  show (a.toBitVec <<< (s.toBitVec.smod 32).toNat).toNat = _
  rw [hs, BitVec.toNat_shiftLeft, Nat.shiftLeft_eq]
theorem pk_shlN {n : Nat} (s : Int32) (k : Nat) (hs : (s.toBitVec.smod 32).toNat = k) (h : n * 2 ^ k < 2 ^ 32) : nI n <<< s = nI (n * 2 ^ k) := by
  apply Int32.toBitVec_inj.mp
  apply BitVec.eq_of_toNat_eq
  have hn : n < 2 ^ 32 := Nat.lt_of_le_of_lt (Nat.le_mul_of_pos_right n (Nat.two_pow_pos k)) h
  rw [pk_shl _ _ k hs, pk_tn hn, pk_tn h, Nat.mod_eq_of_lt h]
theorem pk_shr (a s : Int32) (k : Nat) (hs : (s.toBitVec.smod 32).toNat = k) : (a >>> s).toInt = a.toInt >>> k := by
  show (a.toBitVec.sshiftRight (s.toBitVec.smod 32).toNat).toInt = _
  rw [hs, BitVec.toInt_sshiftRight]
  rfl
theorem pk_shrN {n : Nat} (h : n < 2 ^ 31) (s : Int32) (k : Nat) (hs : (s.toBitVec.smod 32).toNat = k) : nI n >>> s = nI (n / 2 ^ k) := by
  apply Int32.toInt_inj.mp
  have h2 : n / 2 ^ k ≤ n := Nat.div_le_self _ _
  rw [pk_shr _ _ k hs, nI_toInt h, nI_toInt (by omega), Int.shiftRight_eq_div_pow]
  rfl
def bt (x : Int32) (i : Nat) : Bool := x.toBitVec.getLsbD i
theorem b_ext {x y : Int32} (h : ∀ i, i < 32 → bt x i = bt y i) : x = y := Int32.toBitVec_inj.mp (BitVec.eq_of_getLsbD_eq (fun i hi => h i hi))
theorem b_or (x y : Int32) (i : Nat) : bt (x ||| y) i = (bt x i || bt y i) := by unfold bt; rw [Int32.toBitVec_or, BitVec.getLsbD_or]
theorem b_and (x y : Int32) (i : Nat) : bt (x &&& y) i = (bt x i && bt y i) := by unfold bt; rw [Int32.toBitVec_and, BitVec.getLsbD_and]
theorem b_xor (x y : Int32) (i : Nat) : bt (x ^^^ y) i = (bt x i ^^ bt y i) := by unfold bt; rw [Int32.toBitVec_xor, BitVec.getLsbD_xor]
theorem b_big {x : Int32} {i : Nat} (h : 32 ≤ i) : bt x i = false := BitVec.getLsbD_of_ge _ _ h
theorem b_m1 : ∀ i, i < 32 → bt (-1) i = true := by decide +kernel
theorem b_0 (i : Nat) : bt 0 i = false := BitVec.getLsbD_zero
theorem s_l : ∀ n, n < 32 → ((nI n &&& 31).toBitVec.smod 32).toNat = n := by decide +kernel
theorem b_shl (n : Nat) (hn : n < 32) (x : Int32) {i : Nat} (hi : i < 32) : bt (x <<< (nI n &&& 31)) i = (decide (n ≤ i) && bt x (i - n)) := by
  unfold bt
  rw [Int32.toBitVec_shiftLeft]
  show (x.toBitVec <<< ((nI n &&& 31).toBitVec.smod 32).toNat).getLsbD i = _
  rw [s_l n hn, BitVec.getLsbD_shiftLeft]
  rcases Nat.lt_or_ge i n with h | h
  · simp [h, Nat.not_le.mpr h]
  · simp [hi, h, Nat.not_lt.mpr h]
theorem b_sshr (n : Nat) (hn : n < 32) (x : Int32) {i : Nat} (hi : i < 32) : bt (x >>> (nI n &&& 31)) i = if n + i < 32 then bt x (n + i) else bt x 31 := by
  unfold bt
  rw [Int32.toBitVec_shiftRight]
  show (x.toBitVec.sshiftRight ((nI n &&& 31).toBitVec.smod 32).toNat).getLsbD i = _
  rw [s_l n hn, BitVec.getLsbD_sshiftRight, BitVec.msb_eq_getLsbD_last]
  simp [hi]
theorem nx_and (a b : Nat) : nI a &&& nI b = nI (a &&& b) := by
  apply Int32.toBitVec_inj.1
  show BitVec.ofNat 32 a &&& BitVec.ofNat 32 b = BitVec.ofNat 32 (a &&& b)
  apply BitVec.eq_of_getLsbD_eq
  intro i hi
  simp [hi]
theorem wb_of32 (x : Int32) : ∃ n, n < 2 ^ 32 ∧ x = nI n := ⟨x.toBitVec.toNat, x.toBitVec.isLt, Int32.toBitVec_inj.mp (by show _ = BitVec.ofNat 32 _; simp)⟩
end
section
/-! bits: small tests, masks, or-folds; X's and Y's operations as pure functions and their bits -/
theorem rf_ext {x y : Int32} (h : ∀ i, i < 32 → (bt x i = true ↔ bt y i = true)) : x = y :=
  b_ext (fun i hi => Bool.eq_iff_iff.mpr (h i hi))
theorem rf_b1 : ∀ i, i < 32 → bt 1 i = decide (i = 0) := by decide +kernel
theorem rf_b15 : ∀ i, i < 32 → bt 15 i = decide (i < 4) := by decide +kernel
theorem rf_or0 (x : Int32) : x ||| 0 = x := b_ext (fun i _ => by rw [b_or, b_0, Bool.or_false])
theorem rf_0or (x : Int32) : 0 ||| x = x := b_ext (fun i _ => by rw [b_or, b_0, Bool.false_or])
theorem rf_and1 (y : Int32) : y &&& 1 = if bt y 0 = true then 1 else 0 := by
  apply b_ext
  intro i hi
  rw [b_and, rf_b1 i hi]
  by_cases h0 : i = 0
  · subst h0
    by_cases hb : bt y 0 = true
    · rw [if_pos hb, hb]
      decide +kernel
    · rw [if_neg hb, Bool.eq_false_iff.mpr hb]
      decide +kernel
  · rw [decide_eq_false h0, Bool.and_false]
    split
    · rw [rf_b1 i hi, decide_eq_false h0]
    · exact (b_0 i).symm
theorem rf_bit (x : Int32) (k : Nat) (hk : k < 32) : (x >>> (nI k &&& 31)) &&& 1 = if bt x k = true then 1 else 0 := by
  rw [rf_and1, b_sshr k hk x (i := 0) (by omega), if_pos (by omega : k + 0 < 32), Nat.add_zero]
theorem rf_bz (x : Int32) (k : Nat) (hk : k < 32) : (x >>> (nI k &&& 31)) &&& 1 = 0 ↔ ¬ bt x k = true := by
  rw [rf_bit x k hk]
  by_cases h : bt x k = true
  · rw [if_pos h]
    exact ⟨fun z => absurd z (by decide), fun z => absurd h z⟩
  · rw [if_neg h]
    exact ⟨fun _ => h, fun _ => rfl⟩
theorem rf_bo (x : Int32) (k : Nat) (hk : k < 32) : (x >>> (nI k &&& 31)) &&& 1 = 1 ↔ bt x k = true := by
  rw [rf_bit x k hk]
  by_cases h : bt x k = true
  · rw [if_pos h]
    exact ⟨fun _ => h, fun _ => rfl⟩
  · rw [if_neg h]
    exact ⟨fun z => absurd z (by decide), fun z => absurd z h⟩
theorem rf_sb (k : Nat) (hk : k < 32) (i : Nat) (hi : i < 32) : bt ((1 : Int32) <<< (nI k &&& 31)) i = true ↔ i = k := by
  rw [b_shl k hk 1 hi, rf_b1 (i - k) (by omega), Bool.and_eq_true, decide_eq_true_eq, decide_eq_true_eq]
  omega
theorem rf_shl (x : Int32) (k : Nat) (hk : k < 32) (i : Nat) (hi : i < 32) : bt (x <<< (nI k &&& 31)) i = true ↔ k ≤ i ∧ bt x (i - k) = true := by
  rw [b_shl k hk x hi, Bool.and_eq_true, decide_eq_true_eq]
theorem rf_row (x : Int32) (k : Nat) (hk : k + 3 < 32) (i : Nat) (hi : i < 32) : bt ((x >>> (nI k &&& 31)) &&& 15) i = true ↔ i < 4 ∧ bt x (k + i) = true := by
  rw [b_and, rf_b15 i hi, b_sshr k (by omega) x hi, Bool.and_eq_true, decide_eq_true_eq]
  constructor
  · rintro ⟨h1, h2⟩
    rw [if_pos (by omega)] at h1
    exact ⟨h2, h1⟩
  · rintro ⟨h1, h2⟩
    rw [if_pos (by omega)]
    exact ⟨h2, h1⟩
theorem rf_z (x : Int32) : x = 0 ↔ ∀ i, i < 32 → ¬ bt x i = true := by
  constructor
  · intro h i _
    rw [h, b_0]
    decide
  · intro h
    exact rf_ext (fun i hi => ⟨fun z => absurd z (h i hi), fun z => by rw [b_0] at z; exact absurd z (by decide)⟩)
theorem rf_ifb {c : Prop} [Decidable c] (t : Int32) (i : Nat) : bt (if c then t else 0) i = true ↔ c ∧ bt t i = true := by
  by_cases h : c
  · rw [if_pos h]
    exact ⟨fun z => ⟨h, z⟩, fun z => z.2⟩
  · rw [if_neg h, b_0]
    exact ⟨fun z => absurd z (by decide), fun z => absurd z.1 h⟩
def rf_it {σ : Type} (F : Nat → σ → σ) (s : σ) : Nat → σ
  | 0 => s
  | k + 1 => F k (rf_it F s k)
def rf_o1 (z : Int32) (f : Nat → Int32) : Nat → Int32
  | 0 => z
  | k + 1 => rf_o1 z f k ||| f k
def rf_o2 (z : Int32) (f : Nat → Nat → Int32) (m : Nat) : Nat → Int32
  | 0 => z
  | k + 1 => rf_o1 (rf_o2 z f m k) (f k) m
theorem rf_o1b (z : Int32) (f : Nat → Int32) (i : Nat) : ∀ n, bt (rf_o1 z f n) i = true ↔ bt z i = true ∨ ∃ k, k < n ∧ bt (f k) i = true := by
  intro n
  induction n with
  | zero => exact ⟨Or.inl, fun h => h.elim id (fun ⟨k, hk, _⟩ => absurd hk (Nat.not_lt_zero k))⟩
  | succ n ih =>
    show bt (rf_o1 z f n ||| f n) i = true ↔ _
    rw [b_or, Bool.or_eq_true, ih]
    constructor
    · rintro ((h | ⟨k, hk, h⟩) | h)
      · exact Or.inl h
      · exact Or.inr ⟨k, by omega, h⟩
      · exact Or.inr ⟨n, by omega, h⟩
    · rintro (h | ⟨k, hk, h⟩)
      · exact Or.inl (Or.inl h)
      · rcases Nat.lt_or_eq_of_le (Nat.le_of_lt_succ hk) with q | q
        · exact Or.inl (Or.inr ⟨k, q, h⟩)
        · subst q
          exact Or.inr h
theorem rf_o2b (z : Int32) (f : Nat → Nat → Int32) (m i : Nat) : ∀ n, bt (rf_o2 z f m n) i = true ↔ bt z i = true ∨ ∃ k, k < n ∧ ∃ j, j < m ∧ bt (f k j) i = true := by
  intro n
  induction n with
  | zero => exact ⟨Or.inl, fun h => h.elim id (fun ⟨k, hk, _⟩ => absurd hk (Nat.not_lt_zero k))⟩
  | succ n ih =>
    show bt (rf_o1 (rf_o2 z f m n) (f n) m) i = true ↔ _
    rw [rf_o1b, ih]
    constructor
    · rintro ((h | ⟨k, hk, h⟩) | ⟨j, hj, h⟩)
      · exact Or.inl h
      · exact Or.inr ⟨k, by omega, h⟩
      · exact Or.inr ⟨n, by omega, j, hj, h⟩
    · rintro (h | ⟨k, hk, h⟩)
      · exact Or.inl (Or.inl h)
      · rcases Nat.lt_or_eq_of_le (Nat.le_of_lt_succ hk) with q | q
        · exact Or.inl (Or.inr ⟨k, q, h⟩)
        · subst q
          exact Or.inr h
theorem rf_no0 {i : Nat} (h : bt 0 i = true) : False := by
  rw [b_0] at h
  exact absurd h (by decide)
/-! validity -/
def rf_vU (N : Nat) (x : Int32) : Prop := ∀ i, i < 32 → bt x i = true → i < N
def rf_vB (N : Nat) (x : Int32) : Prop := ∀ i, i < 32 → bt x i = true → i < 16 ∧ i / 4 < N ∧ i % 4 < N
/-! X's operations -/
def rf_im (s p : Int32) : Int32 := rf_o1 0 (fun a => if bt s a = true then (p >>> (nI (a * 4) &&& 31)) &&& 15 else 0) 4
def rf_pre (p s : Int32) : Int32 := rf_o1 0 (fun a => if ¬ ((p >>> (nI (a * 4) &&& 31)) &&& s = 0) then (1 : Int32) <<< (nI a &&& 31) else 0) 4
def rf_co (l r : Int32) : Int32 := rf_o1 0 (fun a => rf_im ((l >>> (nI (a * 4) &&& 31)) &&& 15) r <<< (nI (a * 4) &&& 31)) 4
def rf_pr (l r : Int32) : Int32 := rf_o1 0 (fun a => if bt l a = true then r <<< (nI (a * 4) &&& 31) else 0) 4
def rf_tr (p : Int32) : Int32 := rf_o2 0 (fun a b => ((p >>> (nI (a * 4 + b) &&& 31)) &&& 1) <<< (nI (b * 4 + a) &&& 31)) 4 4
def rf_ws (via : Nat) (c : Int32) : Int32 := rf_it (fun a d => if bt d (a * 4 + via) = true then d ||| (((c >>> (nI (via * 4) &&& 31)) &&& 15) <<< (nI (a * 4) &&& 31)) else d) c 4
def rf_wc (c : Int32) : Nat → Int32 := rf_it rf_ws c
def rf_id (N : Nat) : Int32 := rf_o1 0 (fun a => (1 : Int32) <<< (nI (a * 5) &&& 31)) N
/-! Y's operations -/
def rf_yc (N : Nat) (x y : Int32) : Int32 := rf_o2 0 (fun a b => if bt x (a * 4 + b) = true then ((y >>> (nI (b * 4) &&& 31)) &&& 15) <<< (nI (a * 4) &&& 31) else 0) N N
def rf_y0 (N : Nat) (l r : Int32) : Int32 := rf_o2 0 (fun a b => if bt l a = true ∧ bt r (a * 4 + b) = true then (1 : Int32) <<< (nI b &&& 31) else 0) N N
def rf_y1 (N : Nat) (l r : Int32) : Int32 := rf_o2 0 (fun a b => if bt l (a * 4 + b) = true ∧ bt r b = true then (1 : Int32) <<< (nI a &&& 31) else 0) N N
def rf_y2 (N : Nat) (l r : Int32) : Int32 := rf_o2 0 (fun a b => if bt l a = true ∧ bt r b = true then (1 : Int32) <<< (nI (a * 4 + b) &&& 31) else 0) N N
def rf_y3 (N : Nat) (l : Int32) : Int32 := rf_o2 0 (fun a b => if bt l (a * 4 + b) = true then (1 : Int32) <<< (nI (b * 4 + a) &&& 31) else 0) N N
def rf_yk (N : Nat) (c : Int32) : Nat → Int32 := rf_it (fun _ d => d ||| rf_yc N d d) c
/-! their bits -/
theorem rf_imb (s p : Int32) (i : Nat) (hi : i < 32) : bt (rf_im s p) i = true ↔ i < 4 ∧ ∃ a, a < 4 ∧ bt s a = true ∧ bt p (a * 4 + i) = true := by
  unfold rf_im
  rw [rf_o1b]
  constructor
  · rintro (h | ⟨a, ha, h⟩)
    · exact (rf_no0 h).elim
    · obtain ⟨hs, h⟩ := (rf_ifb _ i).mp h
      obtain ⟨h4, h⟩ := (rf_row p (a * 4) (by omega) i hi).mp h
      exact ⟨h4, a, ha, hs, h⟩
  · rintro ⟨h4, a, ha, hs, h⟩
    exact Or.inr ⟨a, ha, (rf_ifb _ i).mpr ⟨hs, (rf_row p (a * 4) (by omega) i hi).mpr ⟨h4, h⟩⟩⟩
theorem rf_preb {N : Nat} (hN : N ≤ 4) (p s : Int32) (hs : rf_vU N s) (i : Nat) (hi : i < 32) : bt (rf_pre p s) i = true ↔ i < 4 ∧ ∃ b, b < 4 ∧ bt p (i * 4 + b) = true ∧ bt s b = true := by
  unfold rf_pre
  rw [rf_o1b]
  constructor
  · rintro (h | ⟨a, ha, h⟩)
    · exact (rf_no0 h).elim
    · obtain ⟨hz, h⟩ := (rf_ifb _ i).mp h
      have e := (rf_sb a (by omega) i hi).mp h
      subst e
      refine ⟨ha, ?_⟩
      apply Classical.byContradiction
      intro hn
      apply hz
      rw [rf_z]
      intro j hj hb
      rw [b_and, Bool.and_eq_true] at hb
      have hj4 := hs j hj hb.2
      rw [b_sshr (i * 4) (by omega) p hj, if_pos (by omega)] at hb
      exact hn ⟨j, by omega, hb.1, hb.2⟩
  · rintro ⟨h4, b, hb, h1, h2⟩
    refine Or.inr ⟨i, h4, (rf_ifb _ i).mpr ⟨?_, (rf_sb i (by omega) i hi).mpr rfl⟩⟩
    intro hz
    rw [rf_z] at hz
    apply hz b (by omega)
    rw [b_and, Bool.and_eq_true, b_sshr (i * 4) (by omega) p (by omega), if_pos (by omega)]
    exact ⟨h1, h2⟩
theorem rf_cob (l r : Int32) (i : Nat) (hi : i < 32) : bt (rf_co l r) i = true ↔ i < 16 ∧ ∃ c, c < 4 ∧ bt l (i / 4 * 4 + c) = true ∧ bt r (c * 4 + i % 4) = true := by
  unfold rf_co
  rw [rf_o1b]
  constructor
  · rintro (h | ⟨a, ha, h⟩)
    · exact (rf_no0 h).elim
    · obtain ⟨h1, h⟩ := (rf_shl _ (a * 4) (by omega) i hi).mp h
      obtain ⟨h4, c, hc, h2, h3⟩ := (rf_imb _ r (i - a * 4) (by omega)).mp h
      obtain ⟨_, h2⟩ := (rf_row l (a * 4) (by omega) c (by omega)).mp h2
      have ea : i / 4 = a := by omega
      have em : i % 4 = i - a * 4 := by omega
      rw [ea, em]
      exact ⟨by omega, c, hc, h2, h3⟩
  · rintro ⟨h16, c, hc, h1, h2⟩
    refine Or.inr ⟨i / 4, by omega, (rf_shl _ (i / 4 * 4) (by omega) i hi).mpr ⟨by omega, (rf_imb _ r (i - i / 4 * 4) (by omega)).mpr ⟨by omega, c, hc, (rf_row l (i / 4 * 4) (by omega) c (by omega)).mpr ⟨hc, h1⟩, ?_⟩⟩⟩
    have em : i - i / 4 * 4 = i % 4 := by omega
    rw [em]
    exact h2
theorem rf_prb {N : Nat} (hN : N ≤ 4) (l r : Int32) (hr : rf_vU N r) (i : Nat) (hi : i < 32) : bt (rf_pr l r) i = true ↔ i < 16 ∧ bt l (i / 4) = true ∧ bt r (i % 4) = true := by
  unfold rf_pr
  rw [rf_o1b]
  constructor
  · rintro (h | ⟨a, ha, h⟩)
    · exact (rf_no0 h).elim
    · obtain ⟨h1, h⟩ := (rf_ifb _ i).mp h
      obtain ⟨h2, h3⟩ := (rf_shl r (a * 4) (by omega) i hi).mp h
      have h4 := hr (i - a * 4) (by omega) h3
      have ea : i / 4 = a := by omega
      have em : i % 4 = i - a * 4 := by omega
      rw [ea, em]
      exact ⟨by omega, h1, h3⟩
  · rintro ⟨h16, h1, h2⟩
    refine Or.inr ⟨i / 4, by omega, (rf_ifb _ i).mpr ⟨h1, (rf_shl r (i / 4 * 4) (by omega) i hi).mpr ⟨by omega, ?_⟩⟩⟩
    have em : i - i / 4 * 4 = i % 4 := by omega
    rw [em]
    exact h2
theorem rf_trb (p : Int32) (i : Nat) (hi : i < 32) : bt (rf_tr p) i = true ↔ i < 16 ∧ bt p (i % 4 * 4 + i / 4) = true := by
  unfold rf_tr
  rw [rf_o2b]
  constructor
  · rintro (h | ⟨a, ha, b, hb, h⟩)
    · exact (rf_no0 h).elim
    · obtain ⟨h1, h⟩ := (rf_shl _ (b * 4 + a) (by omega) i hi).mp h
      rw [rf_bit p (a * 4 + b) (by omega)] at h
      obtain ⟨h2, h⟩ := (rf_ifb _ _).mp h
      rw [rf_b1 _ (by omega), decide_eq_true_eq] at h
      have ea : i / 4 = b := by omega
      have em : i % 4 = a := by omega
      rw [ea, em]
      exact ⟨by omega, h2⟩
  · rintro ⟨h16, h⟩
    refine Or.inr ⟨i % 4, by omega, i / 4, by omega, (rf_shl _ (i / 4 * 4 + i % 4) (by omega) i hi).mpr ⟨by omega, ?_⟩⟩
    rw [rf_bit p (i % 4 * 4 + i / 4) (by omega)]
    refine (rf_ifb _ _).mpr ⟨h, ?_⟩
    rw [rf_b1 _ (by omega), decide_eq_true_eq]
    omega
end
section
/-! Y's operations by their bits, and X's = Y's on valid values -/
theorem rf_ycb {N : Nat} (hN : N ≤ 4) (x y : Int32) (i : Nat) (hi : i < 32) : bt (rf_yc N x y) i = true ↔ i < 16 ∧ i / 4 < N ∧ ∃ b, b < N ∧ bt x (i / 4 * 4 + b) = true ∧ bt y (b * 4 + i % 4) = true := by
  unfold rf_yc
  rw [rf_o2b]
  constructor
  · rintro (h | ⟨a, ha, b, hb, h⟩)
    · exact (rf_no0 h).elim
    · obtain ⟨h1, h⟩ := (rf_ifb _ i).mp h
      obtain ⟨h2, h⟩ := (rf_shl _ (a * 4) (by omega) i hi).mp h
      obtain ⟨h3, h⟩ := (rf_row y (b * 4) (by omega) (i - a * 4) (by omega)).mp h
      have ea : i / 4 = a := by omega
      have em : i % 4 = i - a * 4 := by omega
      rw [ea, em]
      exact ⟨by omega, ha, b, hb, h1, h⟩
  · rintro ⟨h16, ha, b, hb, h1, h2⟩
    refine Or.inr ⟨i / 4, ha, b, hb, (rf_ifb _ i).mpr ⟨h1, (rf_shl _ (i / 4 * 4) (by omega) i hi).mpr ⟨by omega, (rf_row y (b * 4) (by omega) (i - i / 4 * 4) (by omega)).mpr ⟨by omega, ?_⟩⟩⟩⟩
    have em : i - i / 4 * 4 = i % 4 := by omega
    rw [em]
    exact h2
theorem rf_y0b {N : Nat} (hN : N ≤ 4) (l r : Int32) (i : Nat) (hi : i < 32) : bt (rf_y0 N l r) i = true ↔ i < N ∧ ∃ a, a < N ∧ bt l a = true ∧ bt r (a * 4 + i) = true := by
  unfold rf_y0
  rw [rf_o2b]
  constructor
  · rintro (h | ⟨a, ha, b, hb, h⟩)
    · exact (rf_no0 h).elim
    · obtain ⟨⟨h1, h2⟩, h⟩ := (rf_ifb _ i).mp h
      have e := (rf_sb b (by omega) i hi).mp h
      subst e
      exact ⟨hb, a, ha, h1, h2⟩
  · rintro ⟨hb, a, ha, h1, h2⟩
    exact Or.inr ⟨a, ha, i, hb, (rf_ifb _ i).mpr ⟨⟨h1, h2⟩, (rf_sb i (by omega) i hi).mpr rfl⟩⟩
theorem rf_y1b {N : Nat} (hN : N ≤ 4) (l r : Int32) (i : Nat) (hi : i < 32) : bt (rf_y1 N l r) i = true ↔ i < N ∧ ∃ b, b < N ∧ bt l (i * 4 + b) = true ∧ bt r b = true := by
  unfold rf_y1
  rw [rf_o2b]
  constructor
  · rintro (h | ⟨a, ha, b, hb, h⟩)
    · exact (rf_no0 h).elim
    · obtain ⟨⟨h1, h2⟩, h⟩ := (rf_ifb _ i).mp h
      have e := (rf_sb a (by omega) i hi).mp h
      subst e
      exact ⟨ha, b, hb, h1, h2⟩
  · rintro ⟨ha, b, hb, h1, h2⟩
    exact Or.inr ⟨i, ha, b, hb, (rf_ifb _ i).mpr ⟨⟨h1, h2⟩, (rf_sb i (by omega) i hi).mpr rfl⟩⟩
theorem rf_y2b {N : Nat} (hN : N ≤ 4) (l r : Int32) (i : Nat) (hi : i < 32) : bt (rf_y2 N l r) i = true ↔ i < 16 ∧ i / 4 < N ∧ i % 4 < N ∧ bt l (i / 4) = true ∧ bt r (i % 4) = true := by
  unfold rf_y2
  rw [rf_o2b]
  constructor
  · rintro (h | ⟨a, ha, b, hb, h⟩)
    · exact (rf_no0 h).elim
    · obtain ⟨⟨h1, h2⟩, h⟩ := (rf_ifb _ i).mp h
      have e := (rf_sb (a * 4 + b) (by omega) i hi).mp h
      have ea : i / 4 = a := by omega
      have em : i % 4 = b := by omega
      rw [ea, em]
      exact ⟨by omega, ha, hb, h1, h2⟩
  · rintro ⟨h16, ha, hb, h1, h2⟩
    refine Or.inr ⟨i / 4, ha, i % 4, hb, (rf_ifb _ i).mpr ⟨⟨h1, h2⟩, (rf_sb (i / 4 * 4 + i % 4) (by omega) i hi).mpr (by omega)⟩⟩
theorem rf_y3b {N : Nat} (hN : N ≤ 4) (l : Int32) (i : Nat) (hi : i < 32) : bt (rf_y3 N l) i = true ↔ i < 16 ∧ i / 4 < N ∧ i % 4 < N ∧ bt l (i % 4 * 4 + i / 4) = true := by
  unfold rf_y3
  rw [rf_o2b]
  constructor
  · rintro (h | ⟨a, ha, b, hb, h⟩)
    · exact (rf_no0 h).elim
    · obtain ⟨h1, h⟩ := (rf_ifb _ i).mp h
      have e := (rf_sb (b * 4 + a) (by omega) i hi).mp h
      have ea : i / 4 = b := by omega
      have em : i % 4 = a := by omega
      rw [ea, em]
      exact ⟨by omega, hb, ha, h1⟩
  · rintro ⟨h16, ha, hb, h1⟩
    refine Or.inr ⟨i % 4, hb, i / 4, ha, (rf_ifb _ i).mpr ⟨h1, (rf_sb (i / 4 * 4 + i % 4) (by omega) i hi).mpr (by omega)⟩⟩
theorem rf_imE {N : Nat} (hN : N ≤ 4) (l r : Int32) (hr : rf_vB N r) : rf_im l r = rf_y0 N l r := by
  apply rf_ext
  intro i hi
  rw [rf_imb l r i hi, rf_y0b hN l r i hi]
  constructor
  · rintro ⟨h4, a, ha, h1, h2⟩
    have := hr (a * 4 + i) (by omega) h2
    exact ⟨by omega, a, by omega, h1, h2⟩
  · rintro ⟨h4, a, ha, h1, h2⟩
    exact ⟨by omega, a, by omega, h1, h2⟩
theorem rf_preE {N : Nat} (hN : N ≤ 4) (l r : Int32) (hl : rf_vB N l) (hr : rf_vU N r) : rf_pre l r = rf_y1 N l r := by
  apply rf_ext
  intro i hi
  rw [rf_preb hN l r hr i hi, rf_y1b hN l r i hi]
  constructor
  · rintro ⟨h4, a, ha, h1, h2⟩
    have := hl (i * 4 + a) (by omega) h1
    exact ⟨by omega, a, by omega, h1, h2⟩
  · rintro ⟨h4, a, ha, h1, h2⟩
    exact ⟨by omega, a, by omega, h1, h2⟩
theorem rf_coE {N : Nat} (hN : N ≤ 4) (l r : Int32) (hl : rf_vB N l) : rf_co l r = rf_yc N l r := by
  apply rf_ext
  intro i hi
  rw [rf_cob l r i hi, rf_ycb hN l r i hi]
  constructor
  · rintro ⟨h4, a, ha, h1, h2⟩
    have := hl (i / 4 * 4 + a) (by omega) h1
    exact ⟨by omega, by omega, a, by omega, h1, h2⟩
  · rintro ⟨h4, _, a, ha, h1, h2⟩
    exact ⟨by omega, a, by omega, h1, h2⟩
theorem rf_prE {N : Nat} (hN : N ≤ 4) (l r : Int32) (hl : rf_vU N l) (hr : rf_vU N r) : rf_pr l r = rf_y2 N l r := by
  apply rf_ext
  intro i hi
  rw [rf_prb hN l r hr i hi, rf_y2b hN l r i hi]
  constructor
  · rintro ⟨h4, h1, h2⟩
    have := hl (i / 4) (by omega) h1
    have := hr (i % 4) (by omega) h2
    exact ⟨by omega, by omega, by omega, h1, h2⟩
  · rintro ⟨h4, _, _, h1, h2⟩
    exact ⟨by omega, h1, h2⟩
theorem rf_trE {N : Nat} (hN : N ≤ 4) (l : Int32) (hl : rf_vB N l) : rf_tr l = rf_y3 N l := by
  apply rf_ext
  intro i hi
  rw [rf_trb l i hi, rf_y3b hN l i hi]
  constructor
  · rintro ⟨h4, h1⟩
    have := hl (i % 4 * 4 + i / 4) (by omega) h1
    exact ⟨by omega, by omega, by omega, h1⟩
  · rintro ⟨h4, _, _, h1⟩
    exact ⟨by omega, h1⟩
/-! the closure -/
theorem rf_wsi (via : Nat) (hv : via < 4) (c : Int32) : ∀ k, k ≤ 4 → ∀ i, i < 32 →
    (bt (rf_it (fun a d => if bt d (a * 4 + via) = true then d ||| (((c >>> (nI (via * 4) &&& 31)) &&& 15) <<< (nI (a * 4) &&& 31)) else d) c k) i = true
      ↔ bt c i = true ∨ (i < k * 4 ∧ bt c (i / 4 * 4 + via) = true ∧ bt c (via * 4 + i % 4) = true)) := by
  intro k
  induction k with
  | zero =>
    intro _ i _
    exact ⟨Or.inl, fun h => h.elim id (fun z => absurd z.1 (by omega))⟩
  | succ k ih =>
    intro hk i hi
    have ih := ih (by omega)
    have ht := ih (k * 4 + via) (by omega)
    have hd := ih i hi
    show bt (if bt (rf_it _ c k) (k * 4 + via) = true then rf_it _ c k ||| _ else rf_it _ c k) i = true ↔ _
    generalize rf_it (fun a d => if bt d (a * 4 + via) = true then d ||| (((c >>> (nI (via * 4) &&& 31)) &&& 15) <<< (nI (a * 4) &&& 31)) else d) c k = d at ht hd ⊢
    have ht' : bt d (k * 4 + via) = true ↔ bt c (k * 4 + via) = true := by
      rw [ht]
      exact ⟨fun h => h.elim id (fun z => absurd z.1 (by omega)), Or.inl⟩
    by_cases hb : bt d (k * 4 + via) = true
    · have hc := ht'.mp hb
      rw [if_pos hb, b_or, Bool.or_eq_true, hd, rf_shl _ (k * 4) (by omega) i hi]
      constructor
      · rintro ((h | ⟨h1, h2, h3⟩) | ⟨h1, h2⟩)
        · exact Or.inl h
        · exact Or.inr ⟨by omega, h2, h3⟩
        · obtain ⟨h3, h4⟩ := (rf_row c (via * 4) (by omega) (i - k * 4) (by omega)).mp h2
          have ea : i / 4 = k := by omega
          have em : i % 4 = i - k * 4 := by omega
          rw [ea, em]
          exact Or.inr ⟨by omega, hc, h4⟩
      · rintro (h | ⟨h1, h2, h3⟩)
        · exact Or.inl (Or.inl h)
        · by_cases hq : i < k * 4
          · exact Or.inl (Or.inr ⟨hq, h2, h3⟩)
          · refine Or.inr ⟨by omega, (rf_row c (via * 4) (by omega) (i - k * 4) (by omega)).mpr ⟨by omega, ?_⟩⟩
            have em : i - k * 4 = i % 4 := by omega
            rw [em]
            exact h3
    · rw [if_neg hb, hd]
      constructor
      · rintro (h | ⟨h1, h2, h3⟩)
        · exact Or.inl h
        · exact Or.inr ⟨by omega, h2, h3⟩
      · rintro (h | ⟨h1, h2, h3⟩)
        · exact Or.inl h
        · by_cases hq : i < k * 4
          · exact Or.inr ⟨hq, h2, h3⟩
          · have ea : i / 4 = k := by omega
            rw [ea] at h2
            exact absurd (ht'.mpr h2) hb
theorem rf_wsb (via : Nat) (hv : via < 4) (c : Int32) (i : Nat) (hi : i < 32) : bt (rf_ws via c) i = true ↔ bt c i = true ∨ (i < 16 ∧ bt c (i / 4 * 4 + via) = true ∧ bt c (via * 4 + i % 4) = true) :=
  rf_wsi via hv c 4 (by omega) i hi
theorem rf_ykb {N : Nat} (hN : N ≤ 4) (c : Int32) (k i : Nat) (hi : i < 32) : bt (rf_yk N c (k + 1)) i = true ↔ bt (rf_yk N c k) i = true ∨ (i < 16 ∧ i / 4 < N ∧ ∃ b, b < N ∧ bt (rf_yk N c k) (i / 4 * 4 + b) = true ∧ bt (rf_yk N c k) (b * 4 + i % 4) = true) := by
  show bt (rf_yk N c k ||| rf_yc N (rf_yk N c k) (rf_yk N c k)) i = true ↔ _
  rw [b_or, Bool.or_eq_true, rf_ycb hN _ _ i hi]
theorem rf_wcs (c : Int32) (k : Nat) : rf_wc c (k + 1) = rf_ws k (rf_wc c k) := rfl
theorem rf_wcv {N : Nat} (hN : N ≤ 4) (c : Int32) (hc : rf_vB N c) : ∀ k, k ≤ 4 → rf_vB N (rf_wc c k) := by
  intro k
  induction k with
  | zero => exact fun _ => hc
  | succ k ih =>
    intro hk i hi h
    have ih := ih (by omega)
    rw [rf_wcs] at h
    rcases (rf_wsb k (by omega) _ i hi).mp h with h | ⟨h1, h2, h3⟩
    · exact ih i hi h
    · have a := ih _ (by omega) h2
      have b := ih _ (by omega) h3
      exact ⟨h1, by omega, by omega⟩
theorem rf_wcm (c : Int32) (k i : Nat) (hk : k < 4) (hi : i < 32) (h : bt (rf_wc c k) i = true) : bt (rf_wc c (k + 1)) i = true := by
  rw [rf_wcs]
  exact (rf_wsb k hk _ i hi).mpr (Or.inl h)
theorem rf_wc0 (c : Int32) (i : Nat) (hi : i < 32) (h : bt c i = true) : ∀ k, k ≤ 4 → bt (rf_wc c k) i = true := by
  intro k
  induction k with
  | zero => exact fun _ => h
  | succ k ih => exact fun hk => rf_wcm c k i (by omega) hi (ih (by omega))
theorem rf_wcy {N : Nat} (hN : N ≤ 4) (c : Int32) (hc : rf_vB N c) : ∀ k, k ≤ N → ∀ i, i < 32 → bt (rf_wc c k) i = true → bt (rf_yk N c k) i = true := by
  intro k
  induction k with
  | zero => exact fun _ i _ h => h
  | succ k ih =>
    intro hk i hi h
    have ih := ih (by omega)
    rw [rf_wcs] at h
    rw [rf_ykb hN c k i hi]
    rcases (rf_wsb k (by omega) _ i hi).mp h with h | ⟨h1, h2, h3⟩
    · exact Or.inl (ih i hi h)
    · have a := rf_wcv hN c hc k (by omega) _ (by omega) h2
      exact Or.inr ⟨h1, by omega, k, by omega, ih _ (by omega) h2, ih _ (by omega) h3⟩
def rf_cl (c : Int32) (j : Nat) : Prop := ∀ a b, a < 4 → b < 4 → bt c (a * 4 + j) = true → bt c (j * 4 + b) = true → bt c (a * 4 + b) = true
theorem rf_wsx (via : Nat) (hv : via < 4) (c : Int32) (a b : Nat) (ha : a < 4) (hb : b < 4) : bt (rf_ws via c) (a * 4 + b) = true ↔ bt c (a * 4 + b) = true ∨ (bt c (a * 4 + via) = true ∧ bt c (via * 4 + b) = true) := by
  rw [rf_wsb via hv c (a * 4 + b) (by omega)]
  have ea : (a * 4 + b) / 4 = a := by omega
  have em : (a * 4 + b) % 4 = b := by omega
  rw [ea, em]
  exact ⟨fun h => h.elim Or.inl (fun z => Or.inr z.2), fun h => h.elim Or.inl (fun z => Or.inr ⟨by omega, z⟩)⟩
theorem rf_clv (via : Nat) (hv : via < 4) (c : Int32) : rf_cl (rf_ws via c) via := by
  intro a b ha hb h1 h2
  rw [rf_wsx via hv c a via ha hv] at h1
  rw [rf_wsx via hv c via b hv hb] at h2
  rw [rf_wsx via hv c a b ha hb]
  have h1 := h1.elim id And.left
  have h2 := h2.elim id And.right
  exact Or.inr ⟨h1, h2⟩
theorem rf_clk (via : Nat) (hv : via < 4) (c : Int32) (j : Nat) (hj : j < 4) (h : rf_cl c j) : rf_cl (rf_ws via c) j := by
  intro a b ha hb h1 h2
  rw [rf_wsx via hv c a j ha hj] at h1
  rw [rf_wsx via hv c j b hj hb] at h2
  rw [rf_wsx via hv c a b ha hb]
  rcases h1 with h1 | ⟨h1, h1'⟩
  · rcases h2 with h2 | ⟨h2, h2'⟩
    · exact Or.inl (h a b ha hb h1 h2)
    · exact Or.inr ⟨h a via ha hv h1 h2, h2'⟩
  · rcases h2 with h2 | ⟨h2, h2'⟩
    · exact Or.inr ⟨h1, h via b hv hb h1' h2⟩
    · exact Or.inr ⟨h1, h2'⟩
theorem rf_cla (c : Int32) : ∀ k, k ≤ 4 → ∀ j, j < k → rf_cl (rf_wc c k) j := by
  intro k
  induction k with
  | zero => exact fun _ j hj => absurd hj (by omega)
  | succ k ih =>
    intro hk j hj
    rw [rf_wcs]
    by_cases e : j = k
    · subst e
      exact rf_clv j (by omega) _
    · exact rf_clk k (by omega) _ j (by omega) (ih (by omega) j (by omega))
theorem rf_yw {N : Nat} (hN : N ≤ 4) (c : Int32) : ∀ k, ∀ i, i < 32 → bt (rf_yk N c k) i = true → bt (rf_wc c 4) i = true := by
  intro k
  induction k with
  | zero => exact fun i hi h => rf_wc0 c i hi h 4 (by omega)
  | succ k ih =>
    intro i hi h
    rcases (rf_ykb hN c k i hi).mp h with h | ⟨h16, _, b, hb, h1, h2⟩
    · exact ih i hi h
    · have q := rf_cla c 4 (by omega) b (by omega) (i / 4) (i % 4) (by omega) (by omega) (ih _ (by omega) h1) (ih _ (by omega) h2)
      have e : i / 4 * 4 + i % 4 = i := by omega
      rw [e] at q
      exact q
theorem rf_wcN {N : Nat} (hN : N ≤ 4) (c : Int32) (hc : rf_vB N c) : ∀ d, N + d ≤ 4 → rf_wc c (N + d) = rf_wc c N := by
  intro d
  induction d with
  | zero => exact fun _ => rfl
  | succ d ih =>
    intro hd
    have ih := ih (by omega)
    show rf_ws (N + d) (rf_wc c (N + d)) = _
    rw [← ih]
    apply rf_ext
    intro i hi
    rw [rf_wsb (N + d) (by omega) _ i hi]
    constructor
    · rintro (h | ⟨h1, h2, h3⟩)
      · exact h
      · have := rf_wcv hN c hc (N + d) (by omega) _ (by omega) h3
        omega
    · exact Or.inl
theorem rf_clE {N : Nat} (hN : N ≤ 4) (c : Int32) (hc : rf_vB N c) : rf_wc c 4 = rf_yk N c N := by
  apply rf_ext
  intro i hi
  constructor
  · intro h
    have e := rf_wcN hN c hc (4 - N) (by omega)
    rw [show N + (4 - N) = 4 by omega] at e
    rw [e] at h
    exact rf_wcy hN c hc N (Nat.le_refl N) i hi h
  · exact rf_yw hN c N i hi
theorem rf_clV {N : Nat} (hN : N ≤ 4) (c : Int32) (hc : rf_vB N c) : rf_vB N (rf_yk N c N) := by
  rw [← rf_clE hN c hc]
  exact rf_wcv hN c hc 4 (by omega)
theorem rf_y0V {N : Nat} (hN : N ≤ 4) (l r : Int32) : rf_vU N (rf_y0 N l r) := fun i hi h => ((rf_y0b hN l r i hi).mp h).1
theorem rf_y1V {N : Nat} (hN : N ≤ 4) (l r : Int32) : rf_vU N (rf_y1 N l r) := fun i hi h => ((rf_y1b hN l r i hi).mp h).1
theorem rf_y2V {N : Nat} (hN : N ≤ 4) (l r : Int32) : rf_vB N (rf_y2 N l r) := fun i hi h => (fun z => ⟨z.1, z.2.1, z.2.2.1⟩) ((rf_y2b hN l r i hi).mp h)
theorem rf_y3V {N : Nat} (hN : N ≤ 4) (l : Int32) : rf_vB N (rf_y3 N l) := fun i hi h => (fun z => ⟨z.1, z.2.1, z.2.2.1⟩) ((rf_y3b hN l i hi).mp h)
theorem rf_ycV {N : Nat} (hN : N ≤ 4) (l r : Int32) (hr : rf_vB N r) : rf_vB N (rf_yc N l r) := by
  intro i hi h
  obtain ⟨h1, h2, b, hb, h3, h4⟩ := (rf_ycb hN l r i hi).mp h
  have := hr _ (by omega) h4
  exact ⟨h1, h2, by omega⟩
theorem rf_vUor {N : Nat} {x y : Int32} (hx : rf_vU N x) (hy : rf_vU N y) : rf_vU N (x ||| y) := by
  intro i hi h
  rw [b_or, Bool.or_eq_true] at h
  exact h.elim (hx i hi) (hy i hi)
theorem rf_vBor {N : Nat} {x y : Int32} (hx : rf_vB N x) (hy : rf_vB N y) : rf_vB N (x ||| y) := by
  intro i hi h
  rw [b_or, Bool.or_eq_true] at h
  exact h.elim (hx i hi) (hy i hi)
theorem rf_vUand {N : Nat} {x : Int32} (y : Int32) (hx : rf_vU N x) : rf_vU N (x &&& y) := by
  intro i hi h
  rw [b_and, Bool.and_eq_true] at h
  exact hx i hi h.1
theorem rf_vBand {N : Nat} {x : Int32} (y : Int32) (hx : rf_vB N x) : rf_vB N (x &&& y) := by
  intro i hi h
  rw [b_and, Bool.and_eq_true] at h
  exact hx i hi h.1
/-! leaves -/
theorem rf_idb {N : Nat} (hN : N ≤ 4) (i : Nat) (hi : i < 32) : bt (rf_id N) i = true ↔ ∃ a, a < N ∧ i = a * 5 := by
  unfold rf_id
  rw [rf_o1b]
  constructor
  · rintro (h | ⟨a, ha, h⟩)
    · exact (rf_no0 h).elim
    · exact ⟨a, ha, (rf_sb (a * 5) (by omega) i hi).mp h⟩
  · rintro ⟨a, ha, h⟩
    exact Or.inr ⟨a, ha, (rf_sb (a * 5) (by omega) i hi).mpr h⟩
theorem rf_idV {N : Nat} (hN : N ≤ 4) : rf_vB N (rf_id N) := by
  intro i hi h
  obtain ⟨a, ha, e⟩ := (rf_idb hN i hi).mp h
  omega
def rf_un (N : Nat) : Int32 := ((1 : Int32) <<< (nI N &&& 31)) - 1
theorem rf_unb : ∀ N, N < 5 → ∀ i, i < 32 → bt (rf_un N) i = decide (i < N) := by decide +kernel
theorem rf_unV {N : Nat} (hN : N ≤ 4) : rf_vU N (rf_un N) := by
  intro i hi h
  rw [rf_unb N (by omega) i hi, decide_eq_true_eq] at h
  exact h
theorem rf_sbV {N k : Nat} (hk : k < N) (hN : N ≤ 4) : rf_vU N ((1 : Int32) <<< (nI k &&& 31)) := by
  intro i hi h
  have := (rf_sb k (by omega) i hi).mp h
  omega
end
section
/-! tokens: pops, result types, values; X's values = Y's on typed operands -/
def rf_pp (k : Int32) : Nat := if k ≤ 4 then 0 else if k = 10 ∨ k = 11 ∨ (14 ≤ k ∧ k ≤ 17) ∨ 21 ≤ k then 1 else 2
def rf_rt (k lt rt ra : Int32) : Int32 :=
  if k = 1 then ra else if k = 2 ∨ k = 3 then 1 else if k = 4 then 2
  else if 5 ≤ k ∧ k ≤ 7 then (if ¬ lt = 0 ∧ lt = rt then lt else -1)
  else if k = 8 then (if lt = 0 ∨ rt = 0 ∨ (lt = 1 ∧ rt = 1) then -1 else if lt = 2 ∧ rt = 2 then 2 else 1)
  else if k = 9 then (if lt = 1 ∧ rt = 1 then 2 else -1)
  else if k = 10 ∨ k = 11 then (if rt = 2 then 2 else -1)
  else if k = 12 ∨ k = 13 then (if ¬ lt = 0 ∧ lt = rt then 0 else -1)
  else if 14 ≤ k ∧ k ≤ 16 then (if ¬ rt = 0 then 0 else -1)
  else if k = 17 ∨ 21 ≤ k then (if rt = 0 then 0 else -1)
  else (if lt = 0 ∧ rt = 0 then 0 else -1)
def rf_sp (k lt rt : Int32) : Int32 := if k = 8 then (if lt = 1 then 23 else if rt = 1 then 24 else 25) else k
def rf_x1 (k x : Int32) : Int32 :=
  if k = 10 then rf_tr x else if k = 11 then rf_wc x 4 else if k = 14 then (if x = 0 then 0 else 1)
  else if k = 16 then (if ¬ x = 0 ∧ x &&& (x - 1) = 0 then 1 else 0) else (if x = 0 then 1 else 0)
def rf_q1 (N : Nat) (k x : Int32) : Int32 :=
  if k = 10 then rf_y3 N x else if k = 11 then rf_yk N x N else if k = 14 then (if x = 0 then 0 else 1)
  else if k = 16 then (if ¬ x = 0 ∧ x &&& (x - 1) = 0 then 1 else 0) else (if x = 0 then 1 else 0)
def rf_x2 (s l x : Int32) : Int32 :=
  if s = 5 ∨ s = 19 then l ||| x else if s = 6 ∨ s = 18 then l &&& x else if s = 7 then l &&& (x ^^^ (-1))
  else if s = 23 then rf_im l x else if s = 24 then rf_pre l x else if s = 25 then rf_co l x
  else if s = 9 then rf_pr l x else if s = 13 then (if l = x then 1 else 0) else (if l &&& (x ^^^ (-1)) = 0 then 1 else 0)
def rf_q2 (N : Nat) (k lt rt l x : Int32) : Int32 :=
  if k = 5 ∨ k = 19 then l ||| x else if k = 6 ∨ k = 18 then l &&& x else if k = 7 then l &&& (x ^^^ (-1))
  else if k = 8 then (if lt = 1 then rf_y0 N l x else if rt = 1 then rf_y1 N l x else rf_yc N l x)
  else if k = 9 then rf_y2 N l x else if k = 12 then (if l &&& (x ^^^ (-1)) = 0 then 1 else 0)
  else if k = 13 then (if l = x then 1 else 0) else (if l = 0 ∨ ¬ x = 0 then 1 else 0)
def rf_ok (N : Nat) (ty x : Int32) : Prop := (ty = 0 ∧ (x = 0 ∨ x = 1)) ∨ (ty = 1 ∧ rf_vU N x) ∨ (ty = 2 ∧ rf_vB N x)
theorem rf_ok0 {N : Nat} {ty x : Int32} (h : rf_ok N ty x) (e : ty = 0) : x = 0 ∨ x = 1 := by
  subst e
  rcases h with h | h | h
  · exact h.2
  · exact absurd h.1 (by decide)
  · exact absurd h.1 (by decide)
theorem rf_ok1 {N : Nat} {ty x : Int32} (h : rf_ok N ty x) (e : ty = 1) : rf_vU N x := by
  subst e
  rcases h with h | h | h
  · exact absurd h.1 (by decide)
  · exact h.2
  · exact absurd h.1 (by decide)
theorem rf_ok2 {N : Nat} {ty x : Int32} (h : rf_ok N ty x) (e : ty = 2) : rf_vB N x := by
  subst e
  rcases h with h | h | h
  · exact absurd h.1 (by decide)
  · exact absurd h.1 (by decide)
  · exact h.2
theorem rf_okt {N : Nat} {ty x : Int32} (h : rf_ok N ty x) : ty = 0 ∨ ty = 1 ∨ ty = 2 := by
  rcases h with h | h | h
  · exact Or.inl h.1
  · exact Or.inr (Or.inl h.1)
  · exact Or.inr (Or.inr h.1)
theorem rf_okI {N : Nat} {c : Prop} [Decidable c] : rf_ok N 0 (if c then 1 else 0) := by
  by_cases h : c
  · rw [if_pos h]
    exact Or.inl ⟨rfl, Or.inr rfl⟩
  · rw [if_neg h]
    exact Or.inl ⟨rfl, Or.inl rfl⟩
theorem rf_e1 {N : Nat} (hN : N ≤ 4) (k lt rt ra x tt : Int32) (hk : k = 10 ∨ k = 11 ∨ k = 14 ∨ k = 15 ∨ k = 16 ∨ k = 17) (ht : tt = rf_rt k lt rt ra) (hn : ¬ tt = -1) (hx : rf_ok N rt x) : rf_x1 k x = rf_q1 N k x ∧ rf_ok N tt (rf_q1 N k x) := by
  rcases hk with rfl | rfl | rfl | rfl | rfl | rfl
  · have e : rf_rt 10 lt rt ra = if rt = 2 then 2 else -1 := rfl
    rw [e] at ht
    by_cases h2 : rt = 2
    · rw [if_pos h2] at ht
      subst ht
      exact ⟨rf_trE hN x (rf_ok2 hx h2), Or.inr (Or.inr ⟨rfl, rf_y3V hN x⟩)⟩
    · rw [if_neg h2] at ht
      exact absurd ht hn
  · have e : rf_rt 11 lt rt ra = if rt = 2 then 2 else -1 := rfl
    rw [e] at ht
    by_cases h2 : rt = 2
    · rw [if_pos h2] at ht
      subst ht
      exact ⟨rf_clE hN x (rf_ok2 hx h2), Or.inr (Or.inr ⟨rfl, rf_clV hN x (rf_ok2 hx h2)⟩)⟩
    · rw [if_neg h2] at ht
      exact absurd ht hn
  · have e : rf_rt 14 lt rt ra = if ¬ rt = 0 then 0 else -1 := rfl
    rw [e] at ht
    by_cases h2 : ¬ rt = 0
    · rw [if_pos h2] at ht
      subst ht
      refine ⟨rfl, ?_⟩
      show rf_ok N 0 (if x = 0 then 0 else 1)
      by_cases hx0 : x = 0
      · rw [if_pos hx0]
        exact Or.inl ⟨rfl, Or.inl rfl⟩
      · rw [if_neg hx0]
        exact Or.inl ⟨rfl, Or.inr rfl⟩
    · rw [if_neg h2] at ht
      exact absurd ht hn
  · have e : rf_rt 15 lt rt ra = if ¬ rt = 0 then 0 else -1 := rfl
    rw [e] at ht
    by_cases h2 : ¬ rt = 0
    · rw [if_pos h2] at ht
      subst ht
      exact ⟨rfl, rf_okI (c := x = 0)⟩
    · rw [if_neg h2] at ht
      exact absurd ht hn
  · have e : rf_rt 16 lt rt ra = if ¬ rt = 0 then 0 else -1 := rfl
    rw [e] at ht
    by_cases h2 : ¬ rt = 0
    · rw [if_pos h2] at ht
      subst ht
      exact ⟨rfl, rf_okI (c := ¬ x = 0 ∧ x &&& (x - 1) = 0)⟩
    · rw [if_neg h2] at ht
      exact absurd ht hn
  · have e : rf_rt 17 lt rt ra = if rt = 0 then 0 else -1 := rfl
    rw [e] at ht
    by_cases h2 : rt = 0
    · rw [if_pos h2] at ht
      subst ht
      exact ⟨rfl, rf_okI (c := x = 0)⟩
    · rw [if_neg h2] at ht
      exact absurd ht hn
theorem rf_ee {N : Nat} {lt rt l x : Int32} (hl : rf_ok N lt l) (hx : rf_ok N rt x) (h : ¬ lt = 0 ∧ lt = rt) : (lt = 1 ∧ rf_vU N l ∧ rf_vU N x) ∨ (lt = 2 ∧ rf_vB N l ∧ rf_vB N x) := by
  obtain ⟨h0, rfl⟩ := h
  rcases rf_okt hl with e | e | e
  · exact absurd e h0
  · exact Or.inl ⟨e, rf_ok1 hl e, rf_ok1 hx e⟩
  · exact Or.inr ⟨e, rf_ok2 hl e, rf_ok2 hx e⟩
theorem rf_e2e {N : Nat} (f : Int32) {lt l : Int32} (h : (lt = 1 ∧ rf_vU N f) ∨ (lt = 2 ∧ rf_vB N f)) : rf_ok N lt f := h.elim (fun z => Or.inr (Or.inl z)) (fun z => Or.inr (Or.inr z))
theorem rf_imp {l x : Int32} (hl : l = 0 ∨ l = 1) (hx : x = 0 ∨ x = 1) : (if l &&& (x ^^^ (-1)) = 0 then (1 : Int32) else 0) = if l = 0 ∨ ¬ x = 0 then 1 else 0 := by
  rcases hl with rfl | rfl <;> rcases hx with rfl | rfl <;> decide +kernel
theorem rf_e2 {N : Nat} (hN : N ≤ 4) (k lt rt ra l x tt : Int32) (hk : k = 5 ∨ k = 6 ∨ k = 7 ∨ k = 8 ∨ k = 9 ∨ k = 12 ∨ k = 13 ∨ k = 18 ∨ k = 19 ∨ k = 20) (ht : tt = rf_rt k lt rt ra) (hn : ¬ tt = -1) (hl : rf_ok N lt l) (hx : rf_ok N rt x) : rf_x2 (rf_sp k lt rt) l x = rf_q2 N k lt rt l x ∧ rf_ok N tt (rf_q2 N k lt rt l x) := by
  rcases hk with rfl | rfl | rfl | rfl | rfl | rfl | rfl | rfl | rfl | rfl
  · have e : rf_rt 5 lt rt ra = if ¬ lt = 0 ∧ lt = rt then lt else -1 := rfl
    rw [e] at ht
    by_cases h2 : ¬ lt = 0 ∧ lt = rt
    · rw [if_pos h2] at ht
      subst ht
      refine ⟨rfl, ?_⟩
      rcases rf_ee hl hx h2 with ⟨e, a, b⟩ | ⟨e, a, b⟩
      · exact Or.inr (Or.inl ⟨e, rf_vUor a b⟩)
      · exact Or.inr (Or.inr ⟨e, rf_vBor a b⟩)
    · rw [if_neg h2] at ht
      exact absurd ht hn
  · have e : rf_rt 6 lt rt ra = if ¬ lt = 0 ∧ lt = rt then lt else -1 := rfl
    rw [e] at ht
    by_cases h2 : ¬ lt = 0 ∧ lt = rt
    · rw [if_pos h2] at ht
      subst ht
      refine ⟨rfl, ?_⟩
      rcases rf_ee hl hx h2 with ⟨e, a, b⟩ | ⟨e, a, b⟩
      · exact Or.inr (Or.inl ⟨e, rf_vUand x a⟩)
      · exact Or.inr (Or.inr ⟨e, rf_vBand x a⟩)
    · rw [if_neg h2] at ht
      exact absurd ht hn
  · have e : rf_rt 7 lt rt ra = if ¬ lt = 0 ∧ lt = rt then lt else -1 := rfl
    rw [e] at ht
    by_cases h2 : ¬ lt = 0 ∧ lt = rt
    · rw [if_pos h2] at ht
      subst ht
      refine ⟨rfl, ?_⟩
      rcases rf_ee hl hx h2 with ⟨e, a, b⟩ | ⟨e, a, b⟩
      · exact Or.inr (Or.inl ⟨e, rf_vUand (x ^^^ (-1)) a⟩)
      · exact Or.inr (Or.inr ⟨e, rf_vBand (x ^^^ (-1)) a⟩)
    · rw [if_neg h2] at ht
      exact absurd ht hn
  · have e : rf_rt 8 lt rt ra = if lt = 0 ∨ rt = 0 ∨ (lt = 1 ∧ rt = 1) then -1 else if lt = 2 ∧ rt = 2 then 2 else 1 := rfl
    rw [e] at ht
    by_cases h2 : lt = 0 ∨ rt = 0 ∨ (lt = 1 ∧ rt = 1)
    · rw [if_pos h2] at ht
      exact absurd ht hn
    · rw [if_neg h2] at ht
      rcases rf_okt hl with e1 | e1 | e1
      · exact absurd (Or.inl e1) h2
      · rcases rf_okt hx with e2 | e2 | e2
        · exact absurd (Or.inr (Or.inl e2)) h2
        · exact absurd (Or.inr (Or.inr ⟨e1, e2⟩)) h2
        · subst e1 e2
          have ht' : tt = 1 := ht
          subst ht'
          exact ⟨rf_imE hN l x (rf_ok2 hx rfl), Or.inr (Or.inl ⟨rfl, rf_y0V hN l x⟩)⟩
      · rcases rf_okt hx with e2 | e2 | e2
        · exact absurd (Or.inr (Or.inl e2)) h2
        · subst e1 e2
          have ht' : tt = 1 := ht
          subst ht'
          exact ⟨rf_preE hN l x (rf_ok2 hl rfl) (rf_ok1 hx rfl), Or.inr (Or.inl ⟨rfl, rf_y1V hN l x⟩)⟩
        · subst e1 e2
          have ht' : tt = 2 := ht
          subst ht'
          exact ⟨rf_coE hN l x (rf_ok2 hl rfl), Or.inr (Or.inr ⟨rfl, rf_ycV hN l x (rf_ok2 hx rfl)⟩)⟩
  · have e : rf_rt 9 lt rt ra = if lt = 1 ∧ rt = 1 then 2 else -1 := rfl
    rw [e] at ht
    by_cases h2 : lt = 1 ∧ rt = 1
    · rw [if_pos h2] at ht
      subst ht
      exact ⟨rf_prE hN l x (rf_ok1 hl h2.1) (rf_ok1 hx h2.2), Or.inr (Or.inr ⟨rfl, rf_y2V hN l x⟩)⟩
    · rw [if_neg h2] at ht
      exact absurd ht hn
  · have e : rf_rt 12 lt rt ra = if ¬ lt = 0 ∧ lt = rt then 0 else -1 := rfl
    rw [e] at ht
    by_cases h2 : ¬ lt = 0 ∧ lt = rt
    · rw [if_pos h2] at ht
      subst ht
      exact ⟨rfl, rf_okI (c := l &&& (x ^^^ (-1)) = 0)⟩
    · rw [if_neg h2] at ht
      exact absurd ht hn
  · have e : rf_rt 13 lt rt ra = if ¬ lt = 0 ∧ lt = rt then 0 else -1 := rfl
    rw [e] at ht
    by_cases h2 : ¬ lt = 0 ∧ lt = rt
    · rw [if_pos h2] at ht
      subst ht
      exact ⟨rfl, rf_okI (c := l = x)⟩
    · rw [if_neg h2] at ht
      exact absurd ht hn
  · have e : rf_rt 18 lt rt ra = if lt = 0 ∧ rt = 0 then 0 else -1 := rfl
    rw [e] at ht
    by_cases h2 : lt = 0 ∧ rt = 0
    · rw [if_pos h2] at ht
      subst ht
      refine ⟨rfl, Or.inl ⟨rfl, ?_⟩⟩
      show l &&& x = 0 ∨ l &&& x = 1
      rcases rf_ok0 hl h2.1 with rfl | rfl <;> rcases rf_ok0 hx h2.2 with rfl | rfl <;> decide +kernel
    · rw [if_neg h2] at ht
      exact absurd ht hn
  · have e : rf_rt 19 lt rt ra = if lt = 0 ∧ rt = 0 then 0 else -1 := rfl
    rw [e] at ht
    by_cases h2 : lt = 0 ∧ rt = 0
    · rw [if_pos h2] at ht
      subst ht
      refine ⟨rfl, Or.inl ⟨rfl, ?_⟩⟩
      show l ||| x = 0 ∨ l ||| x = 1
      rcases rf_ok0 hl h2.1 with rfl | rfl <;> rcases rf_ok0 hx h2.2 with rfl | rfl <;> decide +kernel
    · rw [if_neg h2] at ht
      exact absurd ht hn
  · have e : rf_rt 20 lt rt ra = if lt = 0 ∧ rt = 0 then 0 else -1 := rfl
    rw [e] at ht
    by_cases h2 : lt = 0 ∧ rt = 0
    · rw [if_pos h2] at ht
      subst ht
      refine ⟨?_, rf_okI (c := l = 0 ∨ ¬ x = 0)⟩
      exact rf_imp (rf_ok0 hl h2.1) (rf_ok0 hx h2.2)
    · rw [if_neg h2] at ht
      exact absurd ht hn
/-! quantifiers over 0 and 1 -/
def rf_qa (N : Nat) (g : Nat → Int32) : Int32 := rf_it (fun a r => if g a = 0 then 0 else r) 1 N
def rf_qe (N : Nat) (g : Nat → Int32) : Int32 := rf_it (fun a r => if g a = 0 then r else 1) 0 N
def rf_sm (N : Nat) (g : Nat → Int32) : Int32 := rf_it (fun a r => r + g a) 0 N
theorem rf_itc {σ : Type} (F G : Nat → σ → σ) (s : σ) : ∀ n, (∀ a, a < n → ∀ r, F a r = G a r) → rf_it F s n = rf_it G s n := by
  intro n
  induction n with
  | zero => exact fun _ => rfl
  | succ n ih =>
    intro h
    show F n (rf_it F s n) = G n (rf_it G s n)
    rw [ih (fun a ha => h a (by omega)), h n (by omega)]
theorem rf_qac {N : Nat} {g g' : Nat → Int32} (h : ∀ a, a < N → g a = g' a) : rf_qa N g = rf_qa N g' := rf_itc _ _ _ N (fun a ha r => by rw [h a ha])
theorem rf_qec {N : Nat} {g g' : Nat → Int32} (h : ∀ a, a < N → g a = g' a) : rf_qe N g = rf_qe N g' := rf_itc _ _ _ N (fun a ha r => by rw [h a ha])
theorem rf_smc {N : Nat} {g g' : Nat → Int32} (h : ∀ a, a < N → g a = g' a) : rf_sm N g = rf_sm N g' := rf_itc _ _ _ N (fun a ha r => by rw [h a ha])
def rf_g4 (x0 x1 x2 x3 : Int32) (a : Nat) : Int32 := if a = 0 then x0 else if a = 1 then x1 else if a = 2 then x2 else x3
def rf_bi (b : Bool) : Int32 := if b = true then 1 else 0
theorem rf_bie {x : Int32} (h : x = 0 ∨ x = 1) : x = rf_bi (decide (x = 1)) := by
  rcases h with rfl | rfl <;> decide +kernel
theorem rf_qk : ∀ b0 b1 b2 b3 : Bool, ∀ N, N < 5 → 1 ≤ N → (if nI N ≤ rf_sm N (rf_g4 (rf_bi b0) (rf_bi b1) (rf_bi b2) (rf_bi b3)) then (1 : Int32) else 0) = rf_qa N (rf_g4 (rf_bi b0) (rf_bi b1) (rf_bi b2) (rf_bi b3)) ∧ (if 1 ≤ rf_sm N (rf_g4 (rf_bi b0) (rf_bi b1) (rf_bi b2) (rf_bi b3)) then (1 : Int32) else 0) = rf_qe N (rf_g4 (rf_bi b0) (rf_bi b1) (rf_bi b2) (rf_bi b3)) ∧ (rf_qa N (rf_g4 (rf_bi b0) (rf_bi b1) (rf_bi b2) (rf_bi b3)) = 0 ∨ rf_qa N (rf_g4 (rf_bi b0) (rf_bi b1) (rf_bi b2) (rf_bi b3)) = 1) ∧ (rf_qe N (rf_g4 (rf_bi b0) (rf_bi b1) (rf_bi b2) (rf_bi b3)) = 0 ∨ rf_qe N (rf_g4 (rf_bi b0) (rf_bi b1) (rf_bi b2) (rf_bi b3)) = 1) := by decide +kernel
theorem rf_qaS {N : Nat} (h1 : 1 ≤ N) (hN : N ≤ 4) (g : Nat → Int32) (hg : ∀ a, a < N → g a = 0 ∨ g a = 1) : (if nI N ≤ rf_sm N g then (1 : Int32) else 0) = rf_qa N g ∧ (if 1 ≤ rf_sm N g then (1 : Int32) else 0) = rf_qe N g ∧ (rf_qa N g = 0 ∨ rf_qa N g = 1) ∧ (rf_qe N g = 0 ∨ rf_qe N g = 1) := by
  have e : ∀ a, a < N → g a = rf_g4 (rf_bi (decide (g 0 = 1))) (rf_bi (decide (g 1 = 1))) (rf_bi (decide (g 2 = 1))) (rf_bi (decide (g 3 = 1))) a := by
    intro a ha
    have hc : a = 0 ∨ a = 1 ∨ a = 2 ∨ a = 3 := by omega
    rcases hc with rfl | rfl | rfl | rfl
    · exact rf_bie (hg 0 ha)
    · exact rf_bie (hg 1 ha)
    · exact rf_bie (hg 2 ha)
    · exact rf_bie (hg 3 ha)
  rw [rf_smc e, rf_qac e, rf_qec e]
  exact rf_qk _ _ _ _ N (by omega) h1
end
section
/-! environments, the pure stack machine, typing -/
def rf_dg (v e : Nat) : Nat := e / 4 ^ v % 4
def rf_sd (v e d : Nat) : Nat := e - e / 4 ^ v % 4 * 4 ^ v + d * 4 ^ v
def rf_gd (N e : Nat) : Prop := e % 4 < N ∧ e / 4 % 4 < N ∧ e / 16 % 4 < N
theorem rf_sd0 (e d : Nat) : rf_sd 0 e d = e - e % 4 + d := by
  unfold rf_sd
  rw [Nat.pow_zero, Nat.div_one, Nat.mul_one, Nat.mul_one]
theorem rf_sd1 (e d : Nat) : rf_sd 1 e d = e - e / 4 % 4 * 4 + d * 4 := by
  unfold rf_sd
  rw [Nat.pow_one]
theorem rf_sd2 (e d : Nat) : rf_sd 2 e d = e - e / 16 % 4 * 16 + d * 16 := rfl
theorem rf_sdg {N v e d : Nat} (hN : N ≤ 4) (hv : v < 3) (he : e < 64) (hg : rf_gd N e) (hd : d < N) : rf_gd N (rf_sd v e d) ∧ rf_sd v e d < 64 := by
  obtain ⟨g0, g1, g2⟩ := hg
  have hc : v = 0 ∨ v = 1 ∨ v = 2 := by omega
  unfold rf_gd
  rcases hc with rfl | rfl | rfl
  · rw [rf_sd0]
    omega
  · rw [rf_sd1]
    omega
  · rw [rf_sd2]
    omega
theorem rf_sdE {v e d g : Nat} (hg : g ≤ 3) (hv : v < g) (he : e < 4 ^ g) (hd : d < 4) : rf_sd v e d < 4 ^ g := by
  have hc : (v = 0 ∧ g = 1) ∨ (v = 0 ∧ g = 2) ∨ (v = 0 ∧ g = 3) ∨ (v = 1 ∧ g = 2) ∨ (v = 1 ∧ g = 3) ∨ (v = 2 ∧ g = 3) := by omega
  rcases hc with ⟨rfl, rfl⟩ | ⟨rfl, rfl⟩ | ⟨rfl, rfl⟩ | ⟨rfl, rfl⟩ | ⟨rfl, rfl⟩ | ⟨rfl, rfl⟩
  · rw [rf_sd0]
    have he : e < 4 := he
    show _ < 4
    omega
  · rw [rf_sd0]
    have he : e < 16 := he
    show _ < 16
    omega
  · rw [rf_sd0]
    have he : e < 64 := he
    show _ < 64
    omega
  · rw [rf_sd1]
    have he : e < 16 := he
    show _ < 16
    omega
  · rw [rf_sd1]
    have he : e < 64 := he
    show _ < 64
    omega
  · rw [rf_sd2]
    have he : e < 64 := he
    show _ < 64
    omega
theorem rf_dgN {N v e : Nat} (hv : v < 3) (hg : rf_gd N e) : rf_dg v e < N := by
  obtain ⟨g0, g1, g2⟩ := hg
  have hc : v = 0 ∨ v = 1 ∨ v = 2 := by omega
  rcases hc with rfl | rfl | rfl
  · show e / 1 % 4 < N
    omega
  · show e / 4 % 4 < N
    exact g1
  · show e / 16 % 4 < N
    exact g2
theorem rf_gd0 {N : Nat} (h : 1 ≤ N) : rf_gd N 0 := by
  unfold rf_gd
  omega
def rf_lf (N : Nat) (cur : Nat → Int32) (k a : Int32) (e : Nat) : Int32 :=
  if k = 1 then cur a.toNatClampNeg else if k = 2 then (1 : Int32) <<< (nI (rf_dg a.toNatClampNeg e) &&& 31) else if k = 3 then rf_un N else rf_id N
def rf_nv (N : Nat) (cur : Nat → Int32) (k a lt rt : Int32) (S : Nat → Nat → Int32) (s e : Nat) : Int32 :=
  if rf_pp k = 0 then rf_lf N cur k a e
  else if k = 21 then rf_qa N (fun d => S s (rf_sd a.toNatClampNeg e d))
  else if k = 22 then rf_qe N (fun d => S s (rf_sd a.toNatClampNeg e d))
  else if rf_pp k = 1 then rf_q1 N k (S s e) else rf_q2 N k lt rt (S s e) (S (s + 1) e)
def rf_lt (k : Int32) (ty : Nat → Int32) (h : Nat) : Int32 := if rf_pp k = 2 then ty (h - 2) else 0
def rf_rr (k : Int32) (ty : Nat → Int32) (h : Nat) : Int32 := if rf_pp k = 0 then 0 else ty (h - 1)
def rf_kd (k : Int32) : Prop := ∃ j : Nat, 1 ≤ j ∧ j ≤ 22 ∧ k = nI j
def rf_wf (R : Nat) (ar ty : Nat → Int32) (h : Nat) (k a tt st : Int32) : Prop :=
  rf_kd k ∧ rf_pp k ≤ h ∧ tt = rf_rt k (rf_lt k ty h) (rf_rr k ty h) (ar a.toNatClampNeg) ∧ ¬ tt = -1
  ∧ (k = 1 → ∃ q : Nat, q < R ∧ a = nI q) ∧ (k = 2 ∨ k = 21 ∨ k = 22 → ∃ v : Nat, v < 3 ∧ a = nI v) ∧ st = rf_sp k (rf_lt k ty h) (rf_rr k ty h)
theorem rf_kg {k : Int32} (h : rf_kd k) : (k = 1 ∨ k = 2 ∨ k = 3 ∨ k = 4) ∨ (k = 10 ∨ k = 11 ∨ k = 14 ∨ k = 15 ∨ k = 16 ∨ k = 17) ∨ (k = 5 ∨ k = 6 ∨ k = 7 ∨ k = 8 ∨ k = 9 ∨ k = 12 ∨ k = 13 ∨ k = 18 ∨ k = 19 ∨ k = 20) ∨ k = 21 ∨ k = 22 := by
  obtain ⟨j, h1, h2, rfl⟩ := h
  have hc : j = 1 ∨ j = 2 ∨ j = 3 ∨ j = 4 ∨ j = 5 ∨ j = 6 ∨ j = 7 ∨ j = 8 ∨ j = 9 ∨ j = 10 ∨ j = 11 ∨ j = 12 ∨ j = 13 ∨ j = 14 ∨ j = 15 ∨ j = 16 ∨ j = 17 ∨ j = 18 ∨ j = 19 ∨ j = 20 ∨ j = 21 ∨ j = 22 := by omega
  rcases hc with rfl | rfl | rfl | rfl | rfl | rfl | rfl | rfl | rfl | rfl | rfl | rfl | rfl | rfl | rfl | rfl | rfl | rfl | rfl | rfl | rfl | rfl <;> decide +kernel
theorem rf_pp0 {k : Int32} (h : k = 1 ∨ k = 2 ∨ k = 3 ∨ k = 4) : rf_pp k = 0 := by
  rcases h with rfl | rfl | rfl | rfl <;> decide +kernel
theorem rf_pp1 {k : Int32} (h : k = 10 ∨ k = 11 ∨ k = 14 ∨ k = 15 ∨ k = 16 ∨ k = 17) : rf_pp k = 1 ∧ ¬ k = 21 ∧ ¬ k = 22 := by
  rcases h with rfl | rfl | rfl | rfl | rfl | rfl <;> decide +kernel
theorem rf_pp2 {k : Int32} (h : k = 5 ∨ k = 6 ∨ k = 7 ∨ k = 8 ∨ k = 9 ∨ k = 12 ∨ k = 13 ∨ k = 18 ∨ k = 19 ∨ k = 20) : rf_pp k = 2 ∧ ¬ k = 21 ∧ ¬ k = 22 := by
  rcases h with rfl | rfl | rfl | rfl | rfl | rfl | rfl | rfl | rfl | rfl <;> decide +kernel
theorem rf_pp21 : rf_pp 21 = 1 := by decide +kernel
theorem rf_pp22 : rf_pp 22 = 1 := by decide +kernel
theorem rf_ppk {k : Int32} (h : rf_kd k) : rf_pp k ≤ 2 := by
  unfold rf_pp
  split
  · omega
  · split <;> omega
theorem rf_nv0 {N : Nat} {cur : Nat → Int32} {k a lt rt : Int32} {S : Nat → Nat → Int32} {s e : Nat} (h : rf_pp k = 0) : rf_nv N cur k a lt rt S s e = rf_lf N cur k a e := if_pos h
theorem rf_nv21 {N : Nat} {cur : Nat → Int32} {a lt rt : Int32} {S : Nat → Nat → Int32} {s e : Nat} : rf_nv N cur 21 a lt rt S s e = rf_qa N (fun d => S s (rf_sd a.toNatClampNeg e d)) := by
  unfold rf_nv
  rw [if_neg (by decide +kernel), if_pos rfl]
theorem rf_nv22 {N : Nat} {cur : Nat → Int32} {a lt rt : Int32} {S : Nat → Nat → Int32} {s e : Nat} : rf_nv N cur 22 a lt rt S s e = rf_qe N (fun d => S s (rf_sd a.toNatClampNeg e d)) := by
  unfold rf_nv
  rw [if_neg (by decide +kernel), if_neg (by decide +kernel), if_pos rfl]
theorem rf_nv1 {N : Nat} {cur : Nat → Int32} {k a lt rt : Int32} {S : Nat → Nat → Int32} {s e : Nat} (h : rf_pp k = 1 ∧ ¬ k = 21 ∧ ¬ k = 22) : rf_nv N cur k a lt rt S s e = rf_q1 N k (S s e) := by
  unfold rf_nv
  rw [if_neg (by omega), if_neg h.2.1, if_neg h.2.2, if_pos h.1]
theorem rf_nv2 {N : Nat} {cur : Nat → Int32} {k a lt rt : Int32} {S : Nat → Nat → Int32} {s e : Nat} (h : rf_pp k = 2 ∧ ¬ k = 21 ∧ ¬ k = 22) : rf_nv N cur k a lt rt S s e = rf_q2 N k lt rt (S s e) (S (s + 1) e) := by
  unfold rf_nv
  rw [if_neg (by omega), if_neg h.2.1, if_neg h.2.2, if_neg (by omega)]
/-- a stack that is typed at the good environments -/
def rf_St (N h : Nat) (ty : Nat → Int32) (S : Nat → Nat → Int32) : Prop := ∀ s, s < h → ∀ e, e < 64 → rf_gd N e → rf_ok N (ty s) (S s e)
theorem rf_t1 {N R h : Nat} (hN : N ≤ 4) {ar ty : Nat → Int32} {S : Nat → Nat → Int32} {k a tt st : Int32} (hw : rf_wf R ar ty h k a tt st) (hS : rf_St N h ty S) (hk : k = 10 ∨ k = 11 ∨ k = 14 ∨ k = 15 ∨ k = 16 ∨ k = 17) {e : Nat} (he : e < 64) (hg : rf_gd N e) :
    rf_x1 st (S (h - 1) e) = rf_q1 N k (S (h - 1) e) ∧ rf_ok N tt (rf_q1 N k (S (h - 1) e)) := by
  obtain ⟨_, hp, ht, hn, _, _, hs⟩ := hw
  have hq := rf_pp1 hk
  have hr : rf_rr k ty h = ty (h - 1) := by
    unfold rf_rr
    rw [if_neg (by omega)]
  have hst : st = k := by
    rw [hs]
    rcases hk with rfl | rfl | rfl | rfl | rfl | rfl <;> rfl
  rw [hr] at ht
  rw [hst]
  exact rf_e1 hN k _ _ _ _ _ hk ht hn (hS (h - 1) (by omega) e he hg)
theorem rf_t2 {N R h : Nat} (hN : N ≤ 4) {ar ty : Nat → Int32} {S : Nat → Nat → Int32} {k a tt st : Int32} (hw : rf_wf R ar ty h k a tt st) (hS : rf_St N h ty S) (hk : k = 5 ∨ k = 6 ∨ k = 7 ∨ k = 8 ∨ k = 9 ∨ k = 12 ∨ k = 13 ∨ k = 18 ∨ k = 19 ∨ k = 20) {e : Nat} (he : e < 64) (hg : rf_gd N e) :
    rf_x2 st (S (h - 2) e) (S (h - 2 + 1) e) = rf_q2 N k (rf_lt k ty h) (rf_rr k ty h) (S (h - 2) e) (S (h - 2 + 1) e) ∧ rf_ok N tt (rf_q2 N k (rf_lt k ty h) (rf_rr k ty h) (S (h - 2) e) (S (h - 2 + 1) e)) := by
  obtain ⟨_, hp, ht, hn, _, _, hs⟩ := hw
  have hq := rf_pp2 hk
  have hr : rf_rr k ty h = ty (h - 1) := by
    unfold rf_rr
    rw [if_neg (by omega)]
  have hl : rf_lt k ty h = ty (h - 2) := by
    unfold rf_lt
    rw [if_pos (by omega)]
  have e1 : h - 2 + 1 = h - 1 := by omega
  rw [hs]
  rw [hr, hl] at ht ⊢
  rw [e1]
  exact rf_e2 hN k _ _ _ _ _ _ hk ht hn (hS (h - 2) (by omega) e he hg) (hS (h - 1) (by omega) e he hg)
theorem rf_rtq (lt rt ra : Int32) : rf_rt 21 lt rt ra = (if rt = 0 then 0 else -1) ∧ rf_rt 22 lt rt ra = (if rt = 0 then 0 else -1) := ⟨rfl, rfl⟩
theorem rf_tq {N R h : Nat} (h1 : 1 ≤ N) (hN : N ≤ 4) {ar ty : Nat → Int32} {S : Nat → Nat → Int32} {k a tt st : Int32} (hw : rf_wf R ar ty h k a tt st) (hS : rf_St N h ty S) (hk : k = 21 ∨ k = 22) {e : Nat} (he : e < 64) (hg : rf_gd N e) :
    ∃ v, v < 3 ∧ a = nI v ∧ tt = 0 ∧ (∀ d, d < N → S (h - 1) (rf_sd v e d) = 0 ∨ S (h - 1) (rf_sd v e d) = 1) := by
  obtain ⟨_, hp, ht, hn, _, hv, hs⟩ := hw
  obtain ⟨v, hv, ea⟩ := hv (Or.inr hk)
  have hq : rf_pp k = 1 := by rcases hk with rfl | rfl <;> decide +kernel
  have hr : rf_rr k ty h = ty (h - 1) := by
    unfold rf_rr
    rw [if_neg (by omega)]
  rw [hr] at ht
  have ht' : tt = if ty (h - 1) = 0 then 0 else -1 := by
    rcases hk with rfl | rfl
    · exact ht
    · exact ht
  by_cases h0 : ty (h - 1) = 0
  · rw [if_pos h0] at ht'
    refine ⟨v, hv, ea, ht', ?_⟩
    intro d hd
    have q := rf_sdg hN hv he hg hd
    exact rf_ok0 (hS (h - 1) (by omega) _ q.2 q.1) h0
  · rw [if_neg h0] at ht'
    exact absurd ht' hn
theorem rf_nvok {N R h : Nat} (h1 : 1 ≤ N) (hN : N ≤ 4) (hR : R ≤ 4) {ar ty cur : Nat → Int32} {S : Nat → Nat → Int32} {k a tt st : Int32} (hw : rf_wf R ar ty h k a tt st) (hc : ∀ q, q < R → rf_ok N (ar q) (cur q)) (hS : rf_St N h ty S) {e : Nat} (he : e < 64) (hg : rf_gd N e) :
    rf_ok N tt (rf_nv N cur k a (rf_lt k ty h) (rf_rr k ty h) S (h - rf_pp k) e) := by
  rcases rf_kg hw.1 with hk | hk | hk | hk
  · rw [rf_nv0 (rf_pp0 hk)]
    obtain ⟨_, hp, ht, hn, hr, hv, hs⟩ := hw
    rcases hk with rfl | rfl | rfl | rfl
    · obtain ⟨q, hq, rfl⟩ := hr rfl
      have ec : (nI q).toNatClampNeg = q := nI_clamp (by omega)
      have ht' : tt = ar (nI q).toNatClampNeg := ht
      show rf_ok N tt (cur (nI q).toNatClampNeg)
      rw [ht', ec]
      exact hc q hq
    · obtain ⟨v, hv3, rfl⟩ := hv (Or.inl rfl)
      have ec : (nI v).toNatClampNeg = v := nI_clamp (by omega)
      have ht' : tt = 1 := ht
      show rf_ok N tt ((1 : Int32) <<< (nI (rf_dg (nI v).toNatClampNeg e) &&& 31))
      rw [ht', ec]
      exact Or.inr (Or.inl ⟨rfl, rf_sbV (rf_dgN hv3 hg) hN⟩)
    · have ht' : tt = 1 := ht
      rw [ht']
      exact Or.inr (Or.inl ⟨rfl, rf_unV hN⟩)
    · have ht' : tt = 2 := ht
      rw [ht']
      exact Or.inr (Or.inr ⟨rfl, rf_idV hN⟩)
  · rw [rf_nv1 (rf_pp1 hk), (rf_pp1 hk).1]
    exact (rf_t1 hN hw hS hk he hg).2
  · rw [rf_nv2 (rf_pp2 hk), (rf_pp2 hk).1]
    exact (rf_t2 hN hw hS hk he hg).2
  · obtain ⟨v, hv, rfl, rfl, hz⟩ := rf_tq h1 hN hw hS hk he hg
    have ec : (nI v).toNatClampNeg = v := nI_clamp (by omega)
    rcases hk with rfl | rfl
    · rw [rf_nv21, ec, rf_pp21]
      exact Or.inl ⟨rfl, (rf_qaS h1 hN _ hz).2.2.1⟩
    · rw [rf_nv22, ec, rf_pp22]
      exact Or.inl ⟨rfl, (rf_qaS h1 hN _ hz).2.2.2⟩
/-! the run over the tokens -/
def rf_hg (tk : Nat → Int32) : Nat → Nat
  | 0 => 0
  | i + 1 => rf_hg tk i - rf_pp (tk i) + 1
def rf_ty (tk tt : Nat → Int32) : Nat → Nat → Int32
  | 0 => fun _ => 0
  | i + 1 => upd (rf_ty tk tt i) (rf_hg tk i - rf_pp (tk i)) (tt i)
def rf_ps (N : Nat) (cur tk ta tt : Nat → Int32) : Nat → Nat → Nat → Int32
  | 0 => fun _ _ => 0
  | i + 1 => fun s e => if s = rf_hg tk i - rf_pp (tk i) then rf_nv N cur (tk i) (ta i) (rf_lt (tk i) (rf_ty tk tt i) (rf_hg tk i)) (rf_rr (tk i) (rf_ty tk tt i) (rf_hg tk i)) (rf_ps N cur tk ta tt i) s e else rf_ps N cur tk ta tt i s e
def rf_WF (R : Nat) (ar tk ta tt st : Nat → Int32) (T : Nat) : Prop := ∀ i, i < T → rf_wf R ar (rf_ty tk tt i) (rf_hg tk i) (tk i) (ta i) (tt i) (st i)
theorem rf_hgi (tk : Nat → Int32) : ∀ i, rf_hg tk i ≤ i := by
  intro i
  induction i with
  | zero => exact Nat.le_refl 0
  | succ i ih =>
    show rf_hg tk i - rf_pp (tk i) + 1 ≤ i + 1
    omega
theorem rf_psok {N R T : Nat} (h1 : 1 ≤ N) (hN : N ≤ 4) (hR : R ≤ 4) {ar tk ta tt st cur : Nat → Int32} (hw : rf_WF R ar tk ta tt st T) (hc : ∀ q, q < R → rf_ok N (ar q) (cur q)) : ∀ i, i ≤ T → rf_St N (rf_hg tk i) (rf_ty tk tt i) (rf_ps N cur tk ta tt i) := by
  intro i
  induction i with
  | zero => exact fun _ s hs => absurd hs (Nat.not_lt_zero s)
  | succ i ih =>
    intro hi s hs e he hg
    have ih := ih (by omega)
    have w := hw i (by omega)
    show rf_ok N (upd (rf_ty tk tt i) (rf_hg tk i - rf_pp (tk i)) (tt i) s) (if s = rf_hg tk i - rf_pp (tk i) then _ else _)
    by_cases hse : s = rf_hg tk i - rf_pp (tk i)
    · rw [if_pos hse, hse, pk_us]
      exact rf_nvok h1 hN hR w hc ih he hg
    · rw [if_neg hse, pk_un hse]
      have hs' : s < rf_hg tk i - rf_pp (tk i) + 1 := hs
      exact ih s (by omega) e he hg
end
section
/-! tuples, counting, assignments -/
def rf_vt (N : Nat) (r : Int32) (i : Nat) : Bool := if r = 1 then decide (i < N) else decide (i < 16 ∧ i / 4 < N ∧ i % 4 < N)
def rf_tc (r : Int32) (i : Nat) : Nat := if r = 1 then i * 4 else i
def rf_fr (N : Nat) (ar md : Nat → Int32) (q i : Nat) : Bool := rf_vt N (ar q) i && decide (md (q * 16 + rf_tc (ar q) i) = 0)
def rf_fq (N : Nat) (ar md : Nat → Int32) (y : Nat) : Bool := rf_fr N ar md (y / 16) (y % 16)
def rf_cn (f : Nat → Bool) : Nat → Nat
  | 0 => 0
  | n + 1 => rf_cn f n + (if f n = true then 1 else 0)
theorem rf_cns (f : Nat → Bool) (n : Nat) : rf_cn f (n + 1) = rf_cn f n + (if f n = true then 1 else 0) := rfl
theorem rf_cnt {f : Nat → Bool} {n : Nat} (h : f n = true) : rf_cn f (n + 1) = rf_cn f n + 1 := by rw [rf_cns, if_pos h]
theorem rf_cnf {f : Nat → Bool} {n : Nat} (h : ¬ f n = true) : rf_cn f (n + 1) = rf_cn f n := by rw [rf_cns, if_neg h, Nat.add_zero]
theorem rf_cnle (f : Nat → Bool) : ∀ n, rf_cn f n ≤ n := by
  intro n
  induction n with
  | zero => exact Nat.le_refl 0
  | succ n ih =>
    rw [rf_cns]
    split <;> omega
theorem rf_cnm (f : Nat → Bool) : ∀ d n, rf_cn f n ≤ rf_cn f (n + d) := by
  intro d
  induction d with
  | zero => exact fun n => Nat.le_refl _
  | succ d ih =>
    intro n
    have := ih n
    rw [← Nat.add_assoc, rf_cns]
    omega
theorem rf_cnlt (f : Nat → Bool) {a b : Nat} (h : a < b) (ha : f a = true) : rf_cn f a < rf_cn f b := by
  have h1 := rf_cnt ha
  have h2 := rf_cnm f (b - (a + 1)) (a + 1)
  rw [show a + 1 + (b - (a + 1)) = b by omega] at h2
  omega
theorem rf_cninj (f : Nat → Bool) {a b : Nat} (ha : f a = true) (hb : f b = true) (e : rf_cn f a = rf_cn f b) : a = b := by
  rcases Nat.lt_trichotomy a b with h | h | h
  · have := rf_cnlt f h ha
    omega
  · exact h
  · have := rf_cnlt f h hb
    omega
theorem rf_cnc (f g : Nat → Bool) : ∀ n, (∀ i, i < n → f i = g i) → rf_cn f n = rf_cn g n := by
  intro n
  induction n with
  | zero => exact fun _ => rfl
  | succ n ih =>
    intro h
    rw [rf_cns, rf_cns, ih (fun i hi => h i (by omega)), h n (by omega)]
theorem rf_cnz (f : Nat → Bool) (n : Nat) : ∀ d, (∀ i, n ≤ i → i < n + d → ¬ f i = true) → rf_cn f (n + d) = rf_cn f n := by
  intro d
  induction d with
  | zero => exact fun _ => rfl
  | succ d ih =>
    intro h
    rw [← Nat.add_assoc, rf_cnf (h (n + d) (by omega) (by omega))]
    exact ih (fun i h1 h2 => h i h1 (by omega))
theorem rf_cnq (f : Nat → Bool) (g : Nat → Bool) (b : Nat) : ∀ n, (∀ i, i < n → f (b + i) = g i) → rf_cn f (b + n) = rf_cn f b + rf_cn g n := by
  intro n
  induction n with
  | zero => exact fun _ => rfl
  | succ n ih =>
    intro h
    rw [← Nat.add_assoc, rf_cns, rf_cns, ih (fun i hi => h i (by omega)), h n (by omega)]
    omega
theorem rf_fqi (N : Nat) (ar md : Nat → Int32) (q i : Nat) (hi : i < 16) : rf_fq N ar md (q * 16 + i) = rf_fr N ar md q i := by
  unfold rf_fq
  rw [show (q * 16 + i) / 16 = q by omega, show (q * 16 + i) % 16 = i by omega]
theorem rf_cq (N : Nat) (ar md : Nat → Int32) (q n : Nat) (hn : n ≤ 16) : rf_cn (rf_fq N ar md) (q * 16 + n) = rf_cn (rf_fq N ar md) (q * 16) + rf_cn (rf_fr N ar md q) n :=
  rf_cnq _ _ _ n (fun i hi => rf_fqi N ar md q i (by omega))
theorem rf_vt1 {N i : Nat} {r : Int32} (h : r = 1) : rf_vt N r i = true ↔ i < N := by
  unfold rf_vt
  rw [if_pos h, decide_eq_true_eq]
theorem rf_vt2 {N i : Nat} {r : Int32} (h : ¬ r = 1) : rf_vt N r i = true ↔ i < 16 ∧ i / 4 < N ∧ i % 4 < N := by
  unfold rf_vt
  rw [if_neg h, decide_eq_true_eq]
theorem rf_vt16 {N i : Nat} {r : Int32} (hN : N ≤ 4) (h : rf_vt N r i = true) : i < 16 := by
  by_cases hr : r = 1
  · have := (rf_vt1 hr).mp h
    omega
  · exact ((rf_vt2 hr).mp h).1
/-! Y's order of cells against bits: rho r t bits lie before cell t -/
def rf_rh (r : Int32) (t : Nat) : Nat := if r = 1 then (t + 3) / 4 else t
def rf_fy (N : Nat) (ar md : Nat → Int32) (q t : Nat) : Bool := (if ar q = 1 then decide (t / 4 < N ∧ t % 4 = 0) else decide (t / 4 < N ∧ t % 4 < N)) && decide (md (q * 16 + t) = 0)
def rf_va (N : Nat) (r : Int32) (t : Nat) : Bool := if r = 1 then decide (t / 4 < N ∧ t % 4 = 0) else decide (t / 4 < N ∧ t % 4 < N)
/-- a valid cell t < 16: the bit of t is rho t, and rho goes up by one -/
theorem rf_rhv {N : Nat} (hN : N ≤ 4) {r : Int32} {t : Nat} (ht : t < 16) (h : rf_va N r t = true) : rf_rh r (t + 1) = rf_rh r t + 1 ∧ rf_tc r (rf_rh r t) = t ∧ rf_vt N r (rf_rh r t) = true ∧ rf_rh r t < 16 ∧ rf_rh r t = (if r = 1 then t / 4 else t) := by
  unfold rf_va at h
  by_cases hr : r = 1
  · rw [if_pos hr, decide_eq_true_eq] at h
    rw [rf_vt1 hr]
    unfold rf_rh rf_tc
    rw [if_pos hr, if_pos hr, if_pos hr, if_pos hr]
    omega
  · rw [if_neg hr, decide_eq_true_eq] at h
    rw [rf_vt2 hr]
    unfold rf_rh rf_tc
    rw [if_neg hr, if_neg hr, if_neg hr, if_neg hr]
    omega
/-- at a cell that is not valid: rho stays, or the bit is not valid -/
theorem rf_rhn {N : Nat} {r : Int32} {t : Nat} (ht : t < 16) (h : ¬ rf_va N r t = true) : rf_rh r (t + 1) = rf_rh r t ∨ (rf_rh r (t + 1) = rf_rh r t + 1 ∧ ¬ rf_vt N r (rf_rh r t) = true ∧ rf_rh r t < 16) := by
  unfold rf_va at h
  by_cases hr : r = 1
  · rw [if_pos hr, decide_eq_true_eq] at h
    rw [rf_vt1 hr]
    unfold rf_rh
    rw [if_pos hr, if_pos hr]
    omega
  · rw [if_neg hr, decide_eq_true_eq] at h
    rw [rf_vt2 hr]
    unfold rf_rh
    rw [if_neg hr, if_neg hr]
    omega
theorem rf_rh0 (r : Int32) : rf_rh r 0 = 0 := by
  unfold rf_rh
  split <;> rfl
theorem rf_rh16 (r : Int32) : rf_rh r 16 ≤ 16 ∧ (rf_rh r 16 = 16 ∨ (r = 1 ∧ rf_rh r 16 = 4)) := by
  unfold rf_rh
  by_cases hr : r = 1
  · rw [if_pos hr]
    exact ⟨by decide, Or.inr ⟨hr, rfl⟩⟩
  · rw [if_neg hr]
    exact ⟨by decide, Or.inl rfl⟩
theorem rf_rhle (r : Int32) (t : Nat) (ht : t ≤ 16) : rf_rh r t ≤ 16 := by
  unfold rf_rh
  split <;> omega
/-- the count before a cell of Y -/
def rf_ct (N : Nat) (ar md : Nat → Int32) (q t : Nat) : Nat := rf_cn (rf_fq N ar md) (q * 16 + rf_rh (ar q) t)
theorem rf_ctv {N : Nat} (hN : N ≤ 4) (ar md : Nat → Int32) (q : Nat) {t : Nat} (ht : t < 16) (h : rf_va N (ar q) t = true) : rf_ct N ar md q (t + 1) = rf_ct N ar md q t + (if md (q * 16 + t) = 0 then 1 else 0) := by
  obtain ⟨h1, h2, h3, h4, _⟩ := rf_rhv hN ht h
  unfold rf_ct
  rw [h1, ← Nat.add_assoc, rf_cns, rf_fqi N ar md q _ h4]
  unfold rf_fr
  rw [h3, h2, Bool.true_and]
  by_cases hm : md (q * 16 + t) = 0
  · rw [if_pos hm, if_pos (decide_eq_true hm)]
  · rw [if_neg hm, if_neg (by rw [decide_eq_true_eq]; exact hm)]
theorem rf_ctn {N : Nat} (ar md : Nat → Int32) (q : Nat) {t : Nat} (ht : t < 16) (h : ¬ rf_va N (ar q) t = true) : rf_ct N ar md q (t + 1) = rf_ct N ar md q t := by
  unfold rf_ct
  rcases rf_rhn ht h with e | ⟨e, h2, h3⟩
  · rw [e]
  · rw [e, ← Nat.add_assoc]
    apply rf_cnf
    rw [rf_fqi N ar md q _ h3]
    unfold rf_fr
    intro z
    rw [Bool.and_eq_true] at z
    exact h2 z.1
theorem rf_ct0 (N : Nat) (ar md : Nat → Int32) (q : Nat) : rf_ct N ar md q 0 = rf_cn (rf_fq N ar md) (q * 16) := by
  unfold rf_ct
  rw [rf_rh0, Nat.add_zero]
theorem rf_ct16 {N : Nat} (hN : N ≤ 4) (ar md : Nat → Int32) (q : Nat) : rf_ct N ar md q 16 = rf_cn (rf_fq N ar md) ((q + 1) * 16) := by
  unfold rf_ct
  rw [show (q + 1) * 16 = q * 16 + 16 by omega]
  rcases (rf_rh16 (ar q)).2 with e | ⟨hr, e⟩
  · rw [e]
  · rw [e]
    refine (rf_cnz _ (q * 16 + 4) 12 ?_).symm
    intro i h1 h2 h3
    rw [show i = q * 16 + (i - q * 16) by omega, rf_fqi N ar md q _ (by omega)] at h3
    unfold rf_fr at h3
    rw [Bool.and_eq_true, rf_vt1 hr] at h3
    omega
/-! assignments -/
def rf_on (N : Nat) (ar md : Nat → Int32) (F : Nat) (c : Int32) (q i : Nat) : Bool := rf_vt N (ar q) i && (decide (md (q * 16 + rf_tc (ar q) i) = 1) || (decide (md (q * 16 + rf_tc (ar q) i) = 0) && bt c (F - 1 - rf_cn (rf_fq N ar md) (q * 16 + i))))
def rf_ap (N : Nat) (ar md : Nat → Int32) (F : Nat) (c : Int32) (q : Nat) : Nat → Int32 := rf_o1 0 (fun i => if rf_on N ar md F c q i = true then (1 : Int32) <<< (nI i &&& 31) else 0)
def rf_as (N : Nat) (ar md : Nat → Int32) (F : Nat) (c : Int32) (q : Nat) : Int32 := rf_ap N ar md F c q 16
theorem rf_asb (N : Nat) (ar md : Nat → Int32) (F : Nat) (c : Int32) (q j : Nat) (hj : j < 32) : bt (rf_as N ar md F c q) j = true ↔ j < 16 ∧ rf_on N ar md F c q j = true := by
  unfold rf_as rf_ap
  rw [rf_o1b]
  constructor
  · rintro (h | ⟨i, hi, h⟩)
    · exact (rf_no0 h).elim
    · obtain ⟨h1, h⟩ := (rf_ifb _ j).mp h
      have e := (rf_sb i (by omega) j hj).mp h
      subst e
      exact ⟨hi, h1⟩
  · rintro ⟨h, h1⟩
    exact Or.inr ⟨j, h, (rf_ifb _ j).mpr ⟨h1, (rf_sb j (by omega) j hj).mpr rfl⟩⟩
theorem rf_onv {N : Nat} {ar md : Nat → Int32} {F : Nat} {c : Int32} {q i : Nat} (h : rf_on N ar md F c q i = true) : rf_vt N (ar q) i = true := by
  unfold rf_on at h
  rw [Bool.and_eq_true] at h
  exact h.1
theorem rf_asok (N : Nat) (ar md : Nat → Int32) (F : Nat) (c : Int32) (q : Nat) (hr : ar q = 1 ∨ ar q = 2) : rf_ok N (ar q) (rf_as N ar md F c q) := by
  rcases hr with e | e
  · refine Or.inr (Or.inl ⟨e, fun i hi h => ?_⟩)
    exact (rf_vt1 e).mp (rf_onv ((rf_asb N ar md F c q i hi).mp h).2)
  · refine Or.inr (Or.inr ⟨e, fun i hi h => ?_⟩)
    exact (rf_vt2 (by rw [e]; decide)).mp (rf_onv ((rf_asb N ar md F c q i hi).mp h).2)
theorem rf_ap16 {N : Nat} (hN : N ≤ 4) (ar md : Nat → Int32) (F : Nat) (c : Int32) (q : Nat) : rf_ap N ar md F c q (rf_rh (ar q) 16) = rf_as N ar md F c q := by
  rcases (rf_rh16 (ar q)).2 with e | ⟨hr, e⟩
  · rw [e]
    rfl
  · rw [e]
    apply rf_ext
    intro j hj
    unfold rf_as rf_ap
    rw [rf_o1b, rf_o1b]
    constructor
    · rintro (h | ⟨i, hi, h⟩)
      · exact Or.inl h
      · exact Or.inr ⟨i, by omega, h⟩
    · rintro (h | ⟨i, hi, h⟩)
      · exact Or.inl h
      · have h1 := rf_onv ((rf_ifb _ j).mp h).1
        rw [rf_vt1 hr] at h1
        exact Or.inr ⟨i, by omega, h⟩
/-! the bounds of both sides -/
def rf_bd (N : Nat) (ar md rq ex : Nat → Int32) : Prop := ∀ q, q < 4 → (ar q = 1 ∨ ar q = 2) ∧ ∀ i, i < 32 →
  bt (rq q) i = (rf_vt N (ar q) i && decide (md (q * 16 + rf_tc (ar q) i) = 1))
  ∧ bt (ex q) i = (rf_vt N (ar q) i && decide (md (q * 16 + rf_tc (ar q) i) = 2))
  ∧ (rf_vt N (ar q) i = true → md (q * 16 + rf_tc (ar q) i) = 0 ∨ md (q * 16 + rf_tc (ar q) i) = 1 ∨ md (q * 16 + rf_tc (ar q) i) = 2)
/-- X's mask of the free tuples -/
def rf_ft (N : Nat) (r q x : Int32) : Int32 := ((if r = 1 then rf_un N else rf_pr (rf_un N) (rf_un N)) &&& (q ^^^ (-1))) &&& (x ^^^ (-1))
theorem rf_tup {N : Nat} (hN : N ≤ 4) (r : Int32) (i : Nat) (hi : i < 32) : bt (if r = 1 then rf_un N else rf_pr (rf_un N) (rf_un N)) i = rf_vt N r i := by
  apply Bool.eq_iff_iff.mpr
  by_cases hr : r = 1
  · rw [if_pos hr, rf_vt1 hr, rf_unb N (by omega) i hi, decide_eq_true_eq]
  · rw [if_neg hr, rf_vt2 hr, rf_prb hN _ _ (rf_unV hN) i hi]
    constructor
    · rintro ⟨h1, h2, h3⟩
      rw [rf_unb N (by omega) _ (by omega), decide_eq_true_eq] at h2 h3
      exact ⟨h1, h2, h3⟩
    · rintro ⟨h1, h2, h3⟩
      rw [rf_unb N (by omega) _ (by omega), rf_unb N (by omega) _ (by omega), decide_eq_true_eq, decide_eq_true_eq]
      exact ⟨h1, h2, h3⟩
theorem rf_ftb {N : Nat} (hN : N ≤ 4) {ar md rq ex : Nat → Int32} (hb : rf_bd N ar md rq ex) {q : Nat} (hq : q < 4) (i : Nat) (hi : i < 32) : bt (rf_ft N (ar q) (rq q) (ex q)) i = rf_fr N ar md q i := by
  obtain ⟨_, h⟩ := hb q hq
  obtain ⟨h1, h2, h3⟩ := h i hi
  unfold rf_ft rf_fr
  rw [b_and, b_and, b_xor, b_xor, b_m1 i hi, rf_tup hN (ar q) i hi, h1, h2]
  cases hv : rf_vt N (ar q) i with
  | false => rfl
  | true =>
    rcases h3 hv with e | e | e
    · rw [e]
      decide +kernel
    · rw [e]
      decide +kernel
    · rw [e]
      decide +kernel
end
section
/-! blocks of an array, loops as folds, index arithmetic of the environments -/
def rf_bk (v : Nat → Int32) (c n : Nat) (g : Nat → Int32) : Nat → Int32 := fun j => if c ≤ j ∧ j < c + n then g (j - c) else v j
theorem rf_bk0 (v : Nat → Int32) (c : Nat) (g : Nat → Int32) : rf_bk v c 0 g = v := by
  funext j
  exact if_neg (by omega)
theorem rf_bks (v : Nat → Int32) (c n : Nat) (g : Nat → Int32) : upd (rf_bk v c n g) (c + n) (g n) = rf_bk v c (n + 1) g := by
  funext j
  show (if j = c + n then g n else if c ≤ j ∧ j < c + n then g (j - c) else v j) = (if c ≤ j ∧ j < c + (n + 1) then g (j - c) else v j)
  by_cases h : j = c + n
  · rw [if_pos h, if_pos (by omega), show j - c = n by omega]
  · rw [if_neg h]
    by_cases h2 : c ≤ j ∧ j < c + n
    · rw [if_pos h2, if_pos (by omega)]
    · rw [if_neg h2, if_neg (by omega)]
theorem rf_bki {v : Nat → Int32} {c n : Nat} {g : Nat → Int32} {i : Nat} (h : i < n) : rf_bk v c n g (c + i) = g i := by
  show (if c ≤ c + i ∧ c + i < c + n then g (c + i - c) else v (c + i)) = g i
  rw [if_pos (by omega), Nat.add_sub_cancel_left]
theorem rf_bko {v : Nat → Int32} {c n : Nat} {g : Nat → Int32} {j : Nat} (h : j < c ∨ c + n ≤ j) : rf_bk v c n g j = v j := if_neg (by omega)
theorem rf_lp {σ : Type} (W : Nat → Nat → σ → Prop) (F : Nat → σ → σ) (e : Nat) (s : σ) (hx : ∀ n, W (n + 1) e (rf_it F s e)) (hs : ∀ n i s, i < e → W n (i + 1) (F i s) → W (n + 1) i s) : ∃ n, W n 0 s :=
  loop_0 W (fun i t => t = rf_it F s i) e s rfl (fun n s' h => by rw [h]; exact hx n) (fun n i s' hi h k => hs n i s' hi (k _ (by rw [h]; rfl)))
theorem rf_o1it (z : Int32) (f : Nat → Int32) : ∀ n, rf_it (fun k r => r ||| f k) z n = rf_o1 z f n := by
  intro n
  induction n with
  | zero => rfl
  | succ n ih =>
    show rf_it (fun k r => r ||| f k) z n ||| f n = rf_o1 z f n ||| f n
    rw [ih]
theorem rf_o2it (z : Int32) (f : Nat → Nat → Int32) (m : Nat) : ∀ n, rf_it (fun k r => rf_o1 r (f k) m) z n = rf_o2 z f m n := by
  intro n
  induction n with
  | zero => rfl
  | succ n ih =>
    show rf_o1 (rf_it (fun k r => rf_o1 r (f k) m) z n) (f n) m = rf_o1 (rf_o2 z f m n) (f n) m
    rw [ih]
theorem rf_4 (a : Nat) : nI a * 4 = nI (a * 4) := pk_mul a 4
theorem rf_5 (a : Nat) : nI a * 5 = nI (a * 5) := pk_mul a 5
theorem rf_16 (a : Nat) : nI a * 16 = nI (a * 16) := pk_mul a 16
theorem rf_64 (a : Nat) : nI a * 64 = nI (a * 64) := pk_mul a 64
theorem rf_2 (a : Nat) : 2 * nI a = nI (2 * a) := pk_mul 2 a
/-! digits -/
theorem rf_dgI : ∀ v, v < 3 → ∀ e, e < 64 → (nI e >>> (nI (2 * v) &&& 31)) &&& 3 = nI (rf_dg v e) := by decide +kernel
theorem rf_sdI : ∀ v, v < 3 → ∀ e, e < 64 → ∀ d, d < 4 → (nI e &&& (((3 : Int32) <<< (nI (2 * v) &&& 31)) ^^^ (-1))) ||| (nI d <<< (nI (2 * v) &&& 31)) = nI (rf_sd v e d) := by decide +kernel
theorem rf_asI : ∀ v, v < 3 → ∀ d, d < 4 → nI d <<< (nI (2 * v) &&& 31) = nI (d * 4 ^ v) := by decide +kernel
theorem rf_cd : ∀ v, v < 3 → ∀ e, e < 64 → rf_sd v e 0 + rf_dg v e * 4 ^ v = e ∧ rf_dg v e < 4 ∧ rf_sd v e 0 ≤ e := by decide +kernel
theorem rf_sda : ∀ v, v < 3 → ∀ e, e < 64 → ∀ d, rf_sd v e d = rf_sd v e 0 + d * 4 ^ v := by
  intro v _ e _ d
  unfold rf_sd
  omega
theorem rf_cz : ∀ v, v < 3 → ∀ e, e < 64 → rf_dg v e = 0 → rf_sd v e 0 = e := by decide +kernel
theorem rf_cs : ∀ v, v < 3 → ∀ e, e < 64 → ∀ d, d < 4 → rf_dg v e = 0 → rf_dg v (e + d * 4 ^ v) = d ∧ rf_sd v (e + d * 4 ^ v) 0 = e ∧ e + d * 4 ^ v < 64 := by decide +kernel
theorem rf_cc : ∀ v, v < 3 → ∀ e, e < 64 → rf_dg v (rf_sd v e 0) = 0 ∧ rf_sd v e 0 < 64 := by decide +kernel
end
section
/-! the run under one more token -/
theorem rf_hgc {tk tk' : Nat → Int32} {T : Nat} (h : ∀ j, j < T → tk' j = tk j) : ∀ i, i ≤ T → rf_hg tk' i = rf_hg tk i := by
  intro i
  induction i with
  | zero => exact fun _ => rfl
  | succ i ih =>
    intro hi
    show rf_hg tk' i - rf_pp (tk' i) + 1 = rf_hg tk i - rf_pp (tk i) + 1
    rw [ih (by omega), h i (by omega)]
theorem rf_tyc {tk tk' tt tt' : Nat → Int32} {T : Nat} (h : ∀ j, j < T → tk' j = tk j) (h2 : ∀ j, j < T → tt' j = tt j) : ∀ i, i ≤ T → rf_ty tk' tt' i = rf_ty tk tt i := by
  intro i
  induction i with
  | zero => exact fun _ => rfl
  | succ i ih =>
    intro hi
    show upd (rf_ty tk' tt' i) (rf_hg tk' i - rf_pp (tk' i)) (tt' i) = upd (rf_ty tk tt i) (rf_hg tk i - rf_pp (tk i)) (tt i)
    rw [ih (by omega), h i (by omega), h2 i (by omega), rf_hgc h i (by omega)]
theorem rf_wfc {R h : Nat} {ar ty ty' : Nat → Int32} {k a tt st : Int32} (he : ∀ s, s < h → ty' s = ty s) (hw : rf_wf R ar ty h k a tt st) : rf_wf R ar ty' h k a tt st := by
  have hp := hw.2.1
  have e1 : rf_lt k ty' h = rf_lt k ty h := by
    unfold rf_lt
    by_cases h2 : rf_pp k = 2
    · rw [if_pos h2, if_pos h2, he _ (by omega)]
    · rw [if_neg h2, if_neg h2]
  have e2 : rf_rr k ty' h = rf_rr k ty h := by
    unfold rf_rr
    by_cases h2 : rf_pp k = 0
    · rw [if_pos h2, if_pos h2]
    · rw [if_neg h2, if_neg h2, he _ (by omega)]
  unfold rf_wf at hw ⊢
  rw [e1, e2]
  exact hw
theorem rf_updlt (f : Nat → Int32) (T : Nat) (x : Int32) : ∀ j, j < T → upd f T x j = f j := fun j hj => pk_un (by omega)
theorem rf_WFs {R T : Nat} {ar tk ta tt st : Nat → Int32} {k a t s : Int32} (hW : rf_WF R ar tk ta tt st T) (hw : rf_wf R ar (rf_ty tk tt T) (rf_hg tk T) k a t s) : rf_WF R ar (upd tk T k) (upd ta T a) (upd tt T t) (upd st T s) (T + 1) := by
  intro i hi
  rw [rf_tyc (rf_updlt tk T k) (rf_updlt tt T t) i (by omega), rf_hgc (rf_updlt tk T k) i (by omega)]
  by_cases e : i = T
  · subst e
    rw [pk_us, pk_us, pk_us, pk_us]
    exact hw
  · rw [pk_un e, pk_un e, pk_un e, pk_un e]
    exact hW i (by omega)
theorem rf_hgs {tk : Nat → Int32} {T : Nat} {k : Int32} : rf_hg (upd tk T k) (T + 1) = rf_hg tk T - rf_pp k + 1 := by
  show rf_hg (upd tk T k) T - rf_pp (upd tk T k T) + 1 = _
  rw [rf_hgc (rf_updlt tk T k) T (Nat.le_refl T), pk_us]
theorem rf_tys {tk tt : Nat → Int32} {T : Nat} {k t : Int32} : rf_ty (upd tk T k) (upd tt T t) (T + 1) = upd (rf_ty tk tt T) (rf_hg tk T - rf_pp k) t := by
  show upd (rf_ty (upd tk T k) (upd tt T t) T) (rf_hg (upd tk T k) T - rf_pp (upd tk T k T)) (upd tt T t T) = _
  rw [rf_hgc (rf_updlt tk T k) T (Nat.le_refl T), rf_tyc (rf_updlt tk T k) (rf_updlt tt T t) T (Nat.le_refl T), pk_us, pk_us]
theorem rf_rt3 {k lt rt ra : Int32} (hl : lt = 0 ∨ lt = 1 ∨ lt = 2) (hr : rt = 0 ∨ rt = 1 ∨ rt = 2) (ha : ra = 1 ∨ ra = 2) (hn : ¬ rf_rt k lt rt ra = -1) : rf_rt k lt rt ra = 0 ∨ rf_rt k lt rt ra = 1 ∨ rf_rt k lt rt ra = 2 := by
  revert hn
  unfold rf_rt
  by_cases h1 : k = 1
  · rw [if_pos h1]
    intro _
    exact Or.inr ha
  rw [if_neg h1]
  by_cases h2 : k = 2 ∨ k = 3
  · rw [if_pos h2]
    exact fun _ => Or.inr (Or.inl rfl)
  rw [if_neg h2]
  by_cases h3 : k = 4
  · rw [if_pos h3]
    exact fun _ => Or.inr (Or.inr rfl)
  rw [if_neg h3]
  by_cases h4 : 5 ≤ k ∧ k ≤ 7
  · rw [if_pos h4]
    by_cases h : ¬ lt = 0 ∧ lt = rt
    · rw [if_pos h]
      exact fun _ => hl
    · rw [if_neg h]
      exact fun z => absurd rfl z
  rw [if_neg h4]
  by_cases h5 : k = 8
  · rw [if_pos h5]
    by_cases h : lt = 0 ∨ rt = 0 ∨ (lt = 1 ∧ rt = 1)
    · rw [if_pos h]
      exact fun z => absurd rfl z
    · rw [if_neg h]
      by_cases h' : lt = 2 ∧ rt = 2
      · rw [if_pos h']
        exact fun _ => Or.inr (Or.inr rfl)
      · rw [if_neg h']
        exact fun _ => Or.inr (Or.inl rfl)
  rw [if_neg h5]
  by_cases h6 : k = 9
  · rw [if_pos h6]
    by_cases h : lt = 1 ∧ rt = 1
    · rw [if_pos h]
      exact fun _ => Or.inr (Or.inr rfl)
    · rw [if_neg h]
      exact fun z => absurd rfl z
  rw [if_neg h6]
  by_cases h7 : k = 10 ∨ k = 11
  · rw [if_pos h7]
    by_cases h : rt = 2
    · rw [if_pos h]
      exact fun _ => Or.inr (Or.inr rfl)
    · rw [if_neg h]
      exact fun z => absurd rfl z
  rw [if_neg h7]
  by_cases h8 : k = 12 ∨ k = 13
  · rw [if_pos h8]
    by_cases h : ¬ lt = 0 ∧ lt = rt
    · rw [if_pos h]
      exact fun _ => Or.inl rfl
    · rw [if_neg h]
      exact fun z => absurd rfl z
  rw [if_neg h8]
  by_cases h9 : 14 ≤ k ∧ k ≤ 16
  · rw [if_pos h9]
    by_cases h : ¬ rt = 0
    · rw [if_pos h]
      exact fun _ => Or.inl rfl
    · rw [if_neg h]
      exact fun z => absurd rfl z
  rw [if_neg h9]
  by_cases h10 : k = 17 ∨ 21 ≤ k
  · rw [if_pos h10]
    by_cases h : rt = 0
    · rw [if_pos h]
      exact fun _ => Or.inl rfl
    · rw [if_neg h]
      exact fun z => absurd rfl z
  rw [if_neg h10]
  by_cases h : lt = 0 ∧ rt = 0
  · rw [if_pos h]
    exact fun _ => Or.inl rfl
  · rw [if_neg h]
    exact fun z => absurd rfl z
end
section
/-! sizes, positions, X's assignment by bits -/
def rf_sz (x : Int32) (n : Nat) : Int32 := rf_it (fun i r => r + ((x >>> (nI i &&& 31)) &&& 1)) 0 n
theorem rf_szn (x : Int32) : ∀ n, n ≤ 32 → rf_sz x n = nI (rf_cn (bt x) n) := by
  intro n
  induction n with
  | zero => exact fun _ => nI_0.symm
  | succ n ih =>
    intro hn
    have ih := ih (by omega)
    show rf_sz x n + ((x >>> (nI n &&& 31)) &&& 1) = _
    rw [ih, rf_bit x n (by omega), rf_cns]
    by_cases h : bt x n = true
    · rw [if_pos h, if_pos h]
      exact nI_1 _
    · rw [if_neg h, if_neg h, Int32.add_zero, Nat.add_zero]
theorem rf_szf {N : Nat} (hN : N ≤ 4) {ar md rq ex : Nat → Int32} (hb : rf_bd N ar md rq ex) {q : Nat} (hq : q < 4) : nI (rf_cn (rf_fq N ar md) (q * 16)) + rf_sz (rf_ft N (ar q) (rq q) (ex q)) 16 = nI (rf_cn (rf_fq N ar md) ((q + 1) * 16)) := by
  rw [rf_szn _ 16 (by omega), rf_cnc _ (rf_fr N ar md q) 16 (fun i hi => rf_ftb hN hb hq i (by omega)), nI_add, show (q + 1) * 16 = q * 16 + 16 by omega, rf_cq N ar md q 16 (by omega)]
/-- the positions listed before cell y -/
def rf_pl (N : Nat) (ar md : Nat → Int32) (y : Nat) (pR pB : Nat → Int32) : Prop := ∀ x, x < rf_cn (rf_fq N ar md) y → ∃ z, z < y ∧ rf_fq N ar md z = true ∧ x = rf_cn (rf_fq N ar md) z ∧ pR x = nI (z / 16) ∧ pB x = (1 : Int32) <<< (nI (z % 16) &&& 31)
theorem rf_pl0 (N : Nat) (ar md pR pB : Nat → Int32) : rf_pl N ar md 0 pR pB := fun x hx => absurd hx (Nat.not_lt_zero x)
theorem rf_pln {N : Nat} {ar md : Nat → Int32} {y : Nat} {pR pB : Nat → Int32} (h : rf_pl N ar md y pR pB) (hf : ¬ rf_fq N ar md y = true) : rf_pl N ar md (y + 1) pR pB := by
  intro x hx
  rw [rf_cnf hf] at hx
  obtain ⟨z, hz, r⟩ := h x hx
  exact ⟨z, by omega, r⟩
theorem rf_plt {N : Nat} {ar md : Nat → Int32} {y : Nat} {pR pB : Nat → Int32} (h : rf_pl N ar md y pR pB) (hf : rf_fq N ar md y = true) : rf_pl N ar md (y + 1) (upd pR (rf_cn (rf_fq N ar md) y) (nI (y / 16))) (upd pB (rf_cn (rf_fq N ar md) y) ((1 : Int32) <<< (nI (y % 16) &&& 31))) := by
  intro x hx
  rw [rf_cnt hf] at hx
  by_cases e : x = rf_cn (rf_fq N ar md) y
  · subst e
    exact ⟨y, by omega, hf, rfl, pk_us, pk_us⟩
  · obtain ⟨z, hz, h1, h2, h3, h4⟩ := h x (by omega)
    exact ⟨z, by omega, h1, h2, by rw [pk_un e]; exact h3, by rw [pk_un e]; exact h4⟩
/-- X's assignment after i positions -/
def rf_hi (N R F : Nat) (ar md rq : Nat → Int32) (c : Int32) (i : Nat) (h : Nat → Int32) : Prop := ∀ q, q < R → ∀ j, j < 32 →
  (bt (h q) j = true ↔ bt (rq q) j = true ∨ ∃ z, z < R * 16 ∧ rf_fq N ar md z = true ∧ z / 16 = q ∧ z % 16 = j ∧ rf_cn (rf_fq N ar md) z < i ∧ bt c (F - 1 - rf_cn (rf_fq N ar md) z) = true)
theorem rf_hi0 {N R F : Nat} {ar md rq : Nat → Int32} {c : Int32} {h : Nat → Int32} (e : ∀ q, q < R → h q = rq q) : rf_hi N R F ar md rq c 0 h := by
  intro q hq j _
  rw [e q hq]
  exact ⟨Or.inl, fun z => z.elim id (fun ⟨_, _, _, _, _, z, _⟩ => absurd z (Nat.not_lt_zero _))⟩
theorem rf_hin {N R F : Nat} {ar md rq : Nat → Int32} {c : Int32} {i : Nat} {h : Nat → Int32} (hh : rf_hi N R F ar md rq c i h) (hb : ¬ bt c (F - 1 - i) = true) : rf_hi N R F ar md rq c (i + 1) h := by
  intro q hq j hj
  rw [hh q hq j hj]
  constructor
  · rintro (h | ⟨z, h1, h2, h3, h4, h5, h6⟩)
    · exact Or.inl h
    · exact Or.inr ⟨z, h1, h2, h3, h4, by omega, h6⟩
  · rintro (h | ⟨z, h1, h2, h3, h4, h5, h6⟩)
    · exact Or.inl h
    · by_cases e : rf_cn (rf_fq N ar md) z = i
      · rw [e] at h6
        exact absurd h6 hb
      · exact Or.inr ⟨z, h1, h2, h3, h4, by omega, h6⟩
theorem rf_hit {N R F : Nat} {ar md rq : Nat → Int32} {c : Int32} {i : Nat} {h : Nat → Int32} (hh : rf_hi N R F ar md rq c i h) (hb : bt c (F - 1 - i) = true) {z : Nat} (hz : z < R * 16) (hf : rf_fq N ar md z = true) (hi : i = rf_cn (rf_fq N ar md) z) : rf_hi N R F ar md rq c (i + 1) (upd h (z / 16) (h (z / 16) ||| (1 : Int32) <<< (nI (z % 16) &&& 31))) := by
  intro q hq j hj
  by_cases e : q = z / 16
  · subst e
    rw [pk_us, b_or, Bool.or_eq_true, hh _ hq j hj, rf_sb (z % 16) (by omega) j hj]
    constructor
    · rintro ((h | ⟨w, h1, h2, h3, h4, h5, h6⟩) | h)
      · exact Or.inl h
      · exact Or.inr ⟨w, h1, h2, h3, h4, by omega, h6⟩
      · exact Or.inr ⟨z, hz, hf, rfl, h.symm, by omega, by rw [← hi]; exact hb⟩
    · rintro (h | ⟨w, h1, h2, h3, h4, h5, h6⟩)
      · exact Or.inl (Or.inl h)
      · by_cases e : rf_cn (rf_fq N ar md) w = i
        · have := rf_cninj _ h2 hf (by omega)
          subst this
          exact Or.inr h4.symm
        · exact Or.inl (Or.inr ⟨w, h1, h2, h3, h4, by omega, h6⟩)
  · rw [pk_un e, hh q hq j hj]
    constructor
    · rintro (h | ⟨w, h1, h2, h3, h4, h5, h6⟩)
      · exact Or.inl h
      · exact Or.inr ⟨w, h1, h2, h3, h4, by omega, h6⟩
    · rintro (h | ⟨w, h1, h2, h3, h4, h5, h6⟩)
      · exact Or.inl h
      · by_cases e2 : rf_cn (rf_fq N ar md) w = i
        · have := rf_cninj _ h2 hf (by omega)
          subst this
          exact absurd h3.symm e
        · exact Or.inr ⟨w, h1, h2, h3, h4, by omega, h6⟩
theorem rf_hie {N R F : Nat} (hN : N ≤ 4) (hR : R ≤ 4) {ar md rq ex : Nat → Int32} (hb : rf_bd N ar md rq ex) (hF : F = rf_cn (rf_fq N ar md) (R * 16)) {c : Int32} {h : Nat → Int32} (hh : rf_hi N R F ar md rq c F h) : ∀ q, q < R → h q = rf_as N ar md F c q := by
  intro q hq
  apply rf_ext
  intro j hj
  rw [hh q hq j hj, rf_asb N ar md F c q j hj]
  obtain ⟨_, hb⟩ := hb q (by omega)
  obtain ⟨h1, _, _⟩ := hb j hj
  rw [h1]
  unfold rf_on
  rw [Bool.and_eq_true, Bool.and_eq_true, Bool.or_eq_true, Bool.and_eq_true]
  constructor
  · rintro (⟨a, b⟩ | ⟨z, g1, g2, g3, g4, g5, g6⟩)
    · exact ⟨rf_vt16 hN a, a, Or.inl b⟩
    · have ez : z = q * 16 + j := by omega
      subst ez
      rw [rf_fqi N ar md q j (by omega)] at g2
      unfold rf_fr at g2
      rw [Bool.and_eq_true] at g2
      exact ⟨by omega, g2.1, Or.inr ⟨g2.2, g6⟩⟩
  · rintro ⟨a, b, d | ⟨d, e⟩⟩
    · exact Or.inl ⟨b, d⟩
    · have g2 : rf_fq N ar md (q * 16 + j) = true := by
        rw [rf_fqi N ar md q j a]
        unfold rf_fr
        rw [Bool.and_eq_true]
        exact ⟨b, d⟩
      refine Or.inr ⟨q * 16 + j, by omega, g2, by omega, by omega, ?_, e⟩
      rw [hF]
      exact rf_cnlt _ (by omega) g2
end
section
/-! values held by an array of blocks of 64 against the pure stack -/
def rf_ag (N E h : Nat) (v : Nat → Int32) (S : Nat → Nat → Int32) : Prop := ∀ s, s < h → ∀ e, e < E → rf_gd N e → v (s * 64 + e) = S s e
theorem rf_agp {N E h s : Nat} {v v' : Nat → Int32} {S nv : Nat → Nat → Int32} (hE : E ≤ 64) (hA : rf_ag N E h v S) (hs : s ≤ h) (ho : ∀ j, j < s * 64 → v' j = v j) (hn : ∀ e, e < E → rf_gd N e → v' (s * 64 + e) = nv s e) : rf_ag N E (s + 1) v' (fun t e => if t = s then nv t e else S t e) := by
  intro t ht e he hg
  show v' (t * 64 + e) = if t = s then nv t e else S t e
  by_cases h : t = s
  · rw [if_pos h, h]
    exact hn e he hg
  · rw [if_neg h, ho _ (by omega)]
    exact hA t (by omega) e he hg
/-- X's new value at an environment, but for quantifiers -/
def rf_gx (N : Nat) (hd : Nat → Int32) (st a : Int32) (p : Nat) (v : Nat → Int32) (c e : Nat) : Int32 :=
  if p = 0 then rf_lf N hd st a e else if p = 1 then rf_x1 st (v (c + e)) else rf_x2 st (v (c + e)) (v (c + e + 64))
/-- Y's new value at an environment, but for quantifiers -/
def rf_gy (N : Nat) (cr : Nat → Int32) (k a lt rt : Int32) (p : Nat) (v : Nat → Int32) (c e : Nat) : Int32 :=
  if p = 0 then rf_lf N cr k a e else if p = 1 then rf_q1 N k (v (c + e)) else rf_q2 N k lt rt (v (c + e)) (v (c + e + 64))
theorem rf_lfc {N R : Nat} (hR : R ≤ 4) {hd cur : Nat → Int32} {k a : Int32} (he : ∀ q, q < R → hd q = cur q) (hr : k = 1 → ∃ q : Nat, q < R ∧ a = nI q) (e : Nat) : rf_lf N hd k a e = rf_lf N cur k a e := by
  unfold rf_lf
  by_cases h : k = 1
  · obtain ⟨q, hq, rfl⟩ := hr h
    rw [if_pos h, if_pos h, nI_clamp (show q < 2 ^ 31 by omega)]
    exact he q hq
  · rw [if_neg h, if_neg h]
theorem rf_sp0 {k lt rt : Int32} (h : ¬ k = 8) : rf_sp k lt rt = k := if_neg h
theorem rf_xag {N R E h : Nat} (hN : N ≤ 4) (hR : R ≤ 4) (hE : E ≤ 64) {ar ty cur hd v : Nat → Int32} {S : Nat → Nat → Int32} {k a tt st : Int32} (hw : rf_wf R ar ty h k a tt st) (hq : ¬ (k = 21 ∨ k = 22)) (hS : rf_St N h ty S) (he : ∀ q, q < R → hd q = cur q) (hA : rf_ag N E h v S) :
    ∀ e, e < E → rf_gd N e → rf_gx N hd st a (rf_pp k) v ((h - rf_pp k) * 64) e = rf_nv N cur k a (rf_lt k ty h) (rf_rr k ty h) S (h - rf_pp k) e := by
  intro e hE' hg
  have hp := hw.2.1
  rcases rf_kg hw.1 with hk | hk | hk | hk
  · have hp0 := rf_pp0 hk
    have hst : st = k := by
      rw [hw.2.2.2.2.2.2]
      rcases hk with rfl | rfl | rfl | rfl <;> rfl
    unfold rf_gx
    rw [rf_nv0 hp0, if_pos hp0, hst]
    exact rf_lfc hR he hw.2.2.2.2.1 e
  · have hp1 := rf_pp1 hk
    unfold rf_gx
    rw [rf_nv1 hp1, if_neg (by omega), if_pos hp1.1, hp1.1, hA (h - 1) (by omega) e hE' hg]
    exact (rf_t1 hN hw hS hk (by omega) hg).1
  · have hp2 := rf_pp2 hk
    unfold rf_gx
    rw [rf_nv2 hp2, if_neg (by omega), if_neg (by omega), hp2.1, show (h - 2) * 64 + e + 64 = (h - 2 + 1) * 64 + e by omega, hA (h - 2) (by omega) e hE' hg, hA (h - 2 + 1) (by omega) e hE' hg]
    exact (rf_t2 hN hw hS hk (by omega) hg).1
  · exact absurd hk hq
theorem rf_yag {N R h : Nat} (hR : R ≤ 4) {ar ty cur cr v : Nat → Int32} {S : Nat → Nat → Int32} {k a tt st : Int32} (hw : rf_wf R ar ty h k a tt st) (hq : ¬ (k = 21 ∨ k = 22)) (he : ∀ q, q < R → cr q = cur q) (hA : rf_ag N 64 h v S) :
    ∀ e, e < 64 → rf_gd N e → rf_gy N cr k a (rf_lt k ty h) (rf_rr k ty h) (rf_pp k) v ((h - rf_pp k) * 64) e = rf_nv N cur k a (rf_lt k ty h) (rf_rr k ty h) S (h - rf_pp k) e := by
  intro e hE' hg
  have hp := hw.2.1
  rcases rf_kg hw.1 with hk | hk | hk | hk
  · have hp0 := rf_pp0 hk
    unfold rf_gy
    rw [rf_nv0 hp0, if_pos hp0]
    exact rf_lfc hR he hw.2.2.2.2.1 e
  · have hp1 := rf_pp1 hk
    unfold rf_gy
    rw [rf_nv1 hp1, if_neg (by omega), if_pos hp1.1, hp1.1, hA (h - 1) (by omega) e hE' hg]
  · have hp2 := rf_pp2 hk
    unfold rf_gy
    rw [rf_nv2 hp2, if_neg (by omega), if_neg (by omega), hp2.1, show (h - 2) * 64 + e + 64 = (h - 2 + 1) * 64 + e by omega, hA (h - 2) (by omega) e hE' hg, hA (h - 2 + 1) (by omega) e hE' hg]
  · exact absurd hk hq
/-! X's quantifier: groups of environments -/
def rf_rs (N : Nat) (k : Int32) (v c : Nat) (v0 : Nat → Int32) (b : Nat) : Int32 := if (if k = 21 then nI N else 1) ≤ rf_sm N (fun a => v0 (c + b + a * 4 ^ v)) then 1 else 0
def rf_qi (N : Nat) (k : Int32) (v c : Nat) (v0 : Nat → Int32) (env : Nat) (w : Nat → Int32) : Prop :=
  (∀ j, j < c ∨ c + 64 ≤ j → w j = v0 j) ∧ ∀ e, e < 64 → w (c + e) = if rf_dg v e < N ∧ rf_sd v e 0 < env then rf_rs N k v c v0 (rf_sd v e 0) else v0 (c + e)
def rf_qj (N : Nat) (k : Int32) (v c : Nat) (v0 : Nat → Int32) (env a : Nat) (w : Nat → Int32) : Prop :=
  (∀ j, j < c ∨ c + 64 ≤ j → w j = v0 j) ∧ ∀ e, e < 64 → w (c + e) = if (rf_dg v e < N ∧ rf_sd v e 0 < env) ∨ (rf_sd v e 0 = env ∧ rf_dg v e < a) then rf_rs N k v c v0 (rf_sd v e 0) else v0 (c + e)
theorem rf_ifc {p q : Prop} [Decidable p] [Decidable q] (x y : Int32) (h : p ↔ q) : (if p then x else y) = if q then x else y := by
  by_cases hp : p
  · rw [if_pos hp, if_pos (h.mp hp)]
  · rw [if_neg hp, if_neg (fun z => hp (h.mpr z))]
theorem rf_qi0 (N : Nat) (k : Int32) (v c : Nat) (v0 : Nat → Int32) : rf_qi N k v c v0 0 v0 := ⟨fun _ _ => rfl, fun e _ => by rw [if_neg (by omega)]⟩
theorem rf_qin {N : Nat} {k : Int32} {v c : Nat} (hv : v < 3) {v0 : Nat → Int32} {env : Nat} {w : Nat → Int32} (hd : ¬ rf_dg v env = 0) (h : rf_qi N k v c v0 env w) : rf_qi N k v c v0 (env + 1) w := by
  refine ⟨h.1, fun e he => ?_⟩
  rw [h.2 e he]
  apply rf_ifc
  have hne : ¬ rf_sd v e 0 = env := by
    intro z
    apply hd
    rw [← z]
    exact (rf_cc v hv e he).1
  constructor
  · exact fun z => ⟨z.1, by omega⟩
  · exact fun z => ⟨z.1, by omega⟩
theorem rf_qij {N : Nat} {k : Int32} {v c : Nat} {v0 : Nat → Int32} {env : Nat} {w : Nat → Int32} (h : rf_qi N k v c v0 env w) : rf_qj N k v c v0 env 0 w := by
  refine ⟨h.1, fun e he => ?_⟩
  rw [h.2 e he]
  apply rf_ifc
  exact ⟨Or.inl, fun z => z.elim id (fun z => absurd z.2 (by omega))⟩
theorem rf_qji {N : Nat} {k : Int32} {v c : Nat} {v0 : Nat → Int32} {env : Nat} {w : Nat → Int32} (h : rf_qj N k v c v0 env N w) : rf_qi N k v c v0 (env + 1) w := by
  refine ⟨h.1, fun e he => ?_⟩
  rw [h.2 e he]
  apply rf_ifc
  omega
theorem rf_qjs {N : Nat} (hN : N ≤ 4) {k : Int32} {v c : Nat} (hv : v < 3) {v0 : Nat → Int32} {env a : Nat} {w : Nat → Int32} (henv : env < 64) (hd : rf_dg v env = 0) (ha : a < N) (h : rf_qj N k v c v0 env a w) : rf_qj N k v c v0 env (a + 1) (upd w (c + env + a * 4 ^ v) (rf_rs N k v c v0 env)) := by
  obtain ⟨c1, c2, c3⟩ := rf_cs v hv env henv a (by omega) hd
  refine ⟨fun j hj => ?_, fun e he => ?_⟩
  · rw [pk_un (by omega)]
    exact h.1 j hj
  · obtain ⟨d1, d2, d3⟩ := rf_cd v hv e he
    by_cases e1 : rf_sd v e 0 = env ∧ rf_dg v e = a
    · have e2 : c + e = c + env + a * 4 ^ v := by
        rw [e1.1, e1.2] at d1
        omega
      rw [if_pos (Or.inr ⟨e1.1, by omega⟩), e2, pk_us, e1.1]
    · have e2 : ¬ c + e = c + env + a * 4 ^ v := by
        intro z
        have z : e = env + a * 4 ^ v := by omega
        apply e1
        rw [z]
        exact ⟨c2, c1⟩
      rw [pk_un e2, h.2 e he]
      apply rf_ifc
      constructor
      · exact fun z => z.elim Or.inl (fun z => Or.inr ⟨z.1, by omega⟩)
      · rintro (z | z)
        · exact Or.inl z
        · exact Or.inr ⟨z.1, by omega⟩
theorem rf_qir {N : Nat} (hN : N ≤ 4) {k : Int32} {v c : Nat} (hv : v < 3) {v0 : Nat → Int32} {env a : Nat} {w : Nat → Int32} (henv : env < 64) (hd : rf_dg v env = 0) (ha : a < N) (h : rf_qi N k v c v0 env w) : w (c + env + a * 4 ^ v) = v0 (c + env + a * 4 ^ v) := by
  obtain ⟨c1, c2, c3⟩ := rf_cs v hv env henv a (by omega) hd
  have q := h.2 (env + a * 4 ^ v) c3
  rw [if_neg (by omega), ← Nat.add_assoc] at q
  exact q
theorem rf_xqag {N R E g h : Nat} (h1 : 1 ≤ N) (hN : N ≤ 4) (hg3 : g ≤ 3) (hEg : E = 4 ^ g) {ar ty v0 w : Nat → Int32} {cur : Nat → Int32} {S : Nat → Nat → Int32} {k a tt st : Int32} (hw : rf_wf R ar ty h k a tt st) (hk : k = 21 ∨ k = 22) {v : Nat} (hv : v < g) (hva : a = nI v) (hS : rf_St N h ty S) (hA : rf_ag N E h v0 S) (hq : rf_qi N k v ((h - 1) * 64) v0 E w) :
    ∀ e, e < E → rf_gd N e → w ((h - 1) * 64 + e) = rf_nv N cur k a (rf_lt k ty h) (rf_rr k ty h) S (h - 1) e := by
  intro e he hgd
  have hE64 : E ≤ 64 := by
    rw [hEg]
    have hc : g = 0 ∨ g = 1 ∨ g = 2 ∨ g = 3 := by omega
    rcases hc with rfl | rfl | rfl | rfl <;> decide
  obtain ⟨v', hv', ea, et, hz⟩ := rf_tq h1 hN hw hS hk (show e < 64 by omega) hgd
  have evv : v' = v := by
    rw [hva, nI_eq (by omega) (by omega)] at ea
    exact ea.symm
  subst evv
  have hp1 : rf_pp k = 1 := by rcases hk with rfl | rfl <;> decide +kernel
  have hp := hw.2.1
  obtain ⟨d1, d2, d3⟩ := rf_cd v' hv' e (by omega)
  rw [hq.2 e (by omega), if_pos ⟨rf_dgN hv' hgd, by omega⟩]
  have hsm : rf_sm N (fun b => v0 ((h - 1) * 64 + rf_sd v' e 0 + b * 4 ^ v')) = rf_sm N (fun b => S (h - 1) (rf_sd v' e b)) := by
    apply rf_smc
    intro b hb
    have q := rf_sdg hN hv' (show e < 64 by omega) hgd hb
    have qe := rf_sdE (d := b) hg3 hv (by rw [← hEg]; exact he) (by omega)
    rw [Nat.add_assoc, ← rf_sda v' hv' e (by omega) b]
    exact hA (h - 1) (by omega) _ (by rw [hEg]; exact qe) q.1
  have hs := rf_qaS h1 hN _ hz
  have ec : a.toNatClampNeg = v' := by
    rw [hva]
    exact nI_clamp (by omega)
  unfold rf_rs
  rw [hsm]
  rcases hk with rfl | rfl
  · rw [if_pos rfl, rf_nv21, ec]
    exact hs.1
  · rw [if_neg (show ¬ (22 : Int32) = 21 by decide), rf_nv22, ec]
    exact hs.2.1
end
section
/-! Y's assignment, cell by cell -/
def rf_cb (N : Nat) (ar md : Nat → Int32) (F : Nat) (c : Int32) (q t : Nat) (x : Nat) : Int32 := if x < q then rf_as N ar md F c x else if x = q then rf_ap N ar md F c q (rf_rh (ar q) t) else 0
def rf_cy (N : Nat) (ar md : Nat → Int32) (F : Nat) (c : Int32) (q t : Nat) (cr : Nat → Int32) : Prop := ∀ x, x < 4 → cr x = rf_cb N ar md F c q t x
theorem rf_cy0 {N : Nat} {ar md : Nat → Int32} {F : Nat} {c : Int32} {cr : Nat → Int32} (h : ∀ x, x < 4 → cr x = 0) : rf_cy N ar md F c 0 0 cr := by
  intro x hx
  rw [h x hx]
  unfold rf_cb
  rw [if_neg (by omega), rf_rh0]
  split
  · rfl
  · rfl
theorem rf_cyq {N : Nat} (hN : N ≤ 4) {ar md : Nat → Int32} {F : Nat} {c : Int32} {q : Nat} {cr : Nat → Int32} (h : rf_cy N ar md F c q 16 cr) : rf_cy N ar md F c (q + 1) 0 cr := by
  intro x hx
  rw [h x hx]
  unfold rf_cb
  rw [rf_rh0]
  by_cases h1 : x < q
  · rw [if_pos h1, if_pos (by omega)]
  · rw [if_neg h1]
    by_cases h2 : x = q
    · rw [if_pos h2, if_pos (by omega), h2]
      exact rf_ap16 hN ar md F c q
    · rw [if_neg h2, if_neg (by omega)]
      split
      · rfl
      · rfl
theorem rf_cyn {N : Nat} {ar md : Nat → Int32} {F : Nat} {c : Int32} {q t : Nat} {cr : Nat → Int32} (ht : t < 16) (hv : ¬ rf_va N (ar q) t = true) (h : rf_cy N ar md F c q t cr) : rf_cy N ar md F c q (t + 1) cr := by
  intro x hx
  rw [h x hx]
  unfold rf_cb
  rcases rf_rhn ht hv with e | ⟨e, h2, h3⟩
  · rw [e]
  · rw [e]
    show _ = if x < q then rf_as N ar md F c x else if x = q then rf_ap N ar md F c q (rf_rh (ar q) t) ||| (if rf_on N ar md F c q (rf_rh (ar q) t) = true then (1 : Int32) <<< (nI (rf_rh (ar q) t) &&& 31) else 0) else 0
    rw [if_neg (fun z => h2 (rf_onv z)), rf_or0]
theorem rf_cyo {N : Nat} (hN : N ≤ 4) {ar md : Nat → Int32} {F : Nat} {c : Int32} {q t : Nat} {cr : Nat → Int32} (ht : t < 16) (hv : rf_va N (ar q) t = true) (ho : ¬ rf_on N ar md F c q (rf_rh (ar q) t) = true) (h : rf_cy N ar md F c q t cr) : rf_cy N ar md F c q (t + 1) cr := by
  intro x hx
  rw [h x hx]
  unfold rf_cb
  rw [(rf_rhv hN ht hv).1]
  show _ = if x < q then rf_as N ar md F c x else if x = q then rf_ap N ar md F c q (rf_rh (ar q) t) ||| (if rf_on N ar md F c q (rf_rh (ar q) t) = true then (1 : Int32) <<< (nI (rf_rh (ar q) t) &&& 31) else 0) else 0
  rw [if_neg ho, rf_or0]
theorem rf_cyt {N : Nat} (hN : N ≤ 4) {ar md : Nat → Int32} {F : Nat} {c : Int32} {q t : Nat} {cr : Nat → Int32} (hq : q < 4) (ht : t < 16) (hv : rf_va N (ar q) t = true) (ho : rf_on N ar md F c q (rf_rh (ar q) t) = true) (h : rf_cy N ar md F c q t cr) : rf_cy N ar md F c q (t + 1) (upd cr q (cr q ||| (1 : Int32) <<< (nI (if ar q = 1 then t / 4 else t) &&& 31))) := by
  intro x hx
  obtain ⟨e1, e2, e3, e4, e5⟩ := rf_rhv hN ht hv
  by_cases e : x = q
  · subst e
    rw [pk_us, h x hx, ← e5]
    unfold rf_cb
    rw [e1]
    show _ = if x < x then rf_as N ar md F c x else if x = x then rf_ap N ar md F c x (rf_rh (ar x) t) ||| (if rf_on N ar md F c x (rf_rh (ar x) t) = true then (1 : Int32) <<< (nI (rf_rh (ar x) t) &&& 31) else 0) else 0
    rw [if_neg (Nat.lt_irrefl x), if_neg (Nat.lt_irrefl x), if_pos rfl, if_pos rfl, if_pos ho]
  · rw [pk_un e, h x hx]
    unfold rf_cb
    rw [if_neg e, if_neg e]
theorem rf_cye {N R : Nat} {ar md : Nat → Int32} {F : Nat} {c : Int32} {cr : Nat → Int32} (hR : R ≤ 4) (h : rf_cy N ar md F c R 0 cr) : ∀ q, q < R → cr q = rf_as N ar md F c q := by
  intro q hq
  rw [h q (by omega)]
  exact if_pos hq
/-- what Y's cell asks -/
theorem rf_onc {N : Nat} (hN : N ≤ 4) {ar md : Nat → Int32} {F : Nat} {c : Int32} {q t : Nat} (ht : t < 16) (hv : rf_va N (ar q) t = true) : rf_on N ar md F c q (rf_rh (ar q) t) = true ↔ md (q * 16 + t) = 1 ∨ (md (q * 16 + t) = 0 ∧ bt c (F - 1 - rf_ct N ar md q t) = true) := by
  obtain ⟨e1, e2, e3, e4, e5⟩ := rf_rhv hN ht hv
  unfold rf_on
  rw [e3, e2, Bool.true_and, Bool.or_eq_true, Bool.and_eq_true, decide_eq_true_eq, decide_eq_true_eq]
  exact Iff.rfl
end
section
/-! X's operations on values: each walk gives its pure function -/
theorem rf_lo (W : Nat → Nat → Int32 → Prop) (f : Nat → Int32) (e : Nat) (z : Int32) (hx : ∀ n, W (n + 1) e (rf_o1 z f e)) (hs : ∀ n i r, i < e → W n (i + 1) (r ||| f i) → W (n + 1) i r) : ∃ n, W n 0 z :=
  rf_lp W (fun i r => r ||| f i) e z (fun n => by rw [rf_o1it]; exact hx n) hs
theorem xw_im (post : Int32 → Prop) (s p : Int32) (h : post (rf_im s p)) : wpX_imageOf post s p := by
  refine rf_lo (fun n i r => wX_imageOf_4 post s p n r (nI i)) (fun a => if bt s a = true then (p >>> (nI (a * 4) &&& 31)) &&& 15 else 0) 4 0 (fun n => br_t (by decide) h) (fun n i r hi hn => ?_)
  have hn : wX_imageOf_4 post s p n (r ||| (if bt s i = true then (p >>> (nI (i * 4) &&& 31)) &&& 15 else 0)) (nI (i + 1)) := hn
  refine br_f (nI_ge (b := 4) hi (by decide)) ?_
  by_cases hb : bt s i = true
  · rw [if_pos hb] at hn
    exact br_f (fun z => (rf_bz s i (by omega)).mp z hb) (nm_r (by rw [rf_4]) (nm_r (nI_1 i) hn))
  · rw [if_neg hb, rf_or0] at hn
    exact br_t ((rf_bz s i (by omega)).mpr hb) (nm_r (nI_1 i) hn)
theorem xw_pre (post : Int32 → Prop) (p s : Int32) (h : post (rf_pre p s)) : wpX_preimageOf post p s := by
  refine rf_lo (fun n i r => wX_preimageOf_4 post p s n r (nI i)) (fun a => if ¬ ((p >>> (nI (a * 4) &&& 31)) &&& s = 0) then (1 : Int32) <<< (nI a &&& 31) else 0) 4 0 (fun n => br_t (by decide) h) (fun n i r hi hn => ?_)
  have hn : wX_preimageOf_4 post p s n (r ||| (if ¬ ((p >>> (nI (i * 4) &&& 31)) &&& s = 0) then (1 : Int32) <<< (nI i &&& 31) else 0)) (nI (i + 1)) := hn
  refine br_f (nI_ge (b := 4) hi (by decide)) ?_
  by_cases hb : (p >>> (nI (i * 4) &&& 31)) &&& s = 0
  · rw [if_neg (fun z => z hb), rf_or0] at hn
    exact br_t (by rw [rf_4]; exact hb) (nm_r (nI_1 i) hn)
  · rw [if_pos hb] at hn
    exact br_f (by rw [rf_4]; exact hb) (nm_e (nm_r (nI_1 i) hn))
theorem xw_co (post : Int32 → Prop) (l r : Int32) (h : post (rf_co l r)) : wpX_compositionOf post l r := by
  refine rf_lo (fun n i z => wX_compositionOf_4 post l r n z (nI i)) (fun a => rf_im ((l >>> (nI (a * 4) &&& 31)) &&& 15) r <<< (nI (a * 4) &&& 31)) 4 0 (fun n => br_t (by decide) h) (fun n i z hi hn => ?_)
  have hn : wX_compositionOf_4 post l r n (z ||| rf_im ((l >>> (nI (i * 4) &&& 31)) &&& 15) r <<< (nI (i * 4) &&& 31)) (nI (i + 1)) := hn
  refine br_f (nI_ge (b := 4) hi (by decide)) ?_
  refine nm_r (e' := (l >>> (nI (i * 4) &&& 31)) &&& 15) (by rw [rf_4]) ?_
  apply xw_im
  exact nm_r (by rw [rf_4]) (nm_r (nI_1 i) hn)
theorem xw_pr (post : Int32 → Prop) (l r : Int32) (h : post (rf_pr l r)) : wpX_productOf post l r := by
  refine rf_lo (fun n i z => wX_productOf_4 post l r n z (nI i)) (fun a => if bt l a = true then r <<< (nI (a * 4) &&& 31) else 0) 4 0 (fun n => br_t (by decide) h) (fun n i z hi hn => ?_)
  have hn : wX_productOf_4 post l r n (z ||| (if bt l i = true then r <<< (nI (i * 4) &&& 31) else 0)) (nI (i + 1)) := hn
  refine br_f (nI_ge (b := 4) hi (by decide)) ?_
  by_cases hb : bt l i = true
  · rw [if_pos hb] at hn
    exact br_f (fun z => (rf_bz l i (by omega)).mp z hb) (nm_r (by rw [rf_4]) (nm_r (nI_1 i) hn))
  · rw [if_neg hb, rf_or0] at hn
    exact br_t ((rf_bz l i (by omega)).mpr hb) (nm_r (nI_1 i) hn)
theorem xw_tr (post : Int32 → Prop) (p : Int32) (h : post (rf_tr p)) : wpX_transposeOf post p := by
  refine rf_lp (fun n i r => wX_transposeOf_4 post p n r (nI i)) (fun a r => rf_o1 r (fun b => ((p >>> (nI (a * 4 + b) &&& 31)) &&& 1) <<< (nI (b * 4 + a) &&& 31)) 4) 4 0 (fun n => br_t (by decide) ?_) (fun n i r hi hn => ?_)
  · rw [rf_o2it 0 (fun a b => ((p >>> (nI (a * 4 + b) &&& 31)) &&& 1) <<< (nI (b * 4 + a) &&& 31)) 4 4]
    exact h
  · refine br_f (nI_ge (b := 4) hi (by decide)) ?_
    refine rf_lo (fun m j z => wX_transposeOf_11 post (wX_transposeOf_4 post p n) p (nI i) m z (nI j)) (fun b => ((p >>> (nI (i * 4 + b) &&& 31)) &&& 1) <<< (nI (b * 4 + i) &&& 31)) 4 r (fun m => br_t (by decide) (nm_r (nI_1 i) hn)) (fun m j z hj hm => ?_)
    refine br_f (nI_ge (b := 4) hj (by decide)) ?_
    exact nm_r (by rw [rf_4, rf_4, nI_add, nI_add]) (nm_r (nI_1 j) hm)
theorem xw_cl (post : Int32 → Prop) (p : Int32) (h : post (rf_wc p 4)) : wpX_closureOf post p := by
  refine rf_lp (fun n i r => wX_closureOf_4 post n r (nI i)) rf_ws 4 p (fun n => br_t (by decide) h) (fun n i r hi hn => ?_)
  refine br_f (nI_ge (b := 4) hi (by decide)) ?_
  refine nm_r (e' := (r >>> (nI (i * 4) &&& 31)) &&& 15) (by rw [rf_4]) ?_
  refine rf_lp (fun m j z => wX_closureOf_21 post (wX_closureOf_4 post n) (nI i) ((r >>> (nI (i * 4) &&& 31)) &&& 15) m z (nI j)) (fun a d => if bt d (a * 4 + i) = true then d ||| (((r >>> (nI (i * 4) &&& 31)) &&& 15) <<< (nI (a * 4) &&& 31)) else d) 4 r (fun m => br_t (by decide) (nm_r (nI_1 i) hn)) (fun m j z hj hm => ?_)
  have hm : wX_closureOf_21 post (wX_closureOf_4 post n) (nI i) ((r >>> (nI (i * 4) &&& 31)) &&& 15) m (if bt z (j * 4 + i) = true then z ||| (((r >>> (nI (i * 4) &&& 31)) &&& 15) <<< (nI (j * 4) &&& 31)) else z) (nI (j + 1)) := hm
  refine br_f (nI_ge (b := 4) hj (by decide)) ?_
  by_cases hb : bt z (j * 4 + i) = true
  · rw [if_pos hb] at hm
    exact br_f (by rw [rf_4, nI_add]; exact fun q => (rf_bz z (j * 4 + i) (by omega)).mp q hb) (nm_r (by rw [rf_4]) (nm_r (nI_1 j) hm))
  · rw [if_neg hb] at hm
    exact br_t (by rw [rf_4, nI_add]; exact (rf_bz z (j * 4 + i) (by omega)).mpr hb) (nm_r (nI_1 j) hm)
theorem xw_sz (post : Int32 → Prop) (x : Int32) (h : post (rf_sz x 16)) : wpX_sizeOf post x := by
  refine rf_lp (fun n i r => wX_sizeOf_4 post x n r (nI i)) (fun i r => r + ((x >>> (nI i &&& 31)) &&& 1)) 16 0 (fun n => br_t (by decide) h) (fun n i r hi hn => ?_)
  exact br_f (nI_ge (b := 16) hi (by decide)) (nm_e (nm_r (nI_1 i) hn))
theorem xw_x1 (post : Int32 → Prop) (k x : Int32) (hk : k = 10 ∨ k = 11 ∨ k = 14 ∨ k = 15 ∨ k = 16 ∨ k = 17) (h : post (rf_x1 k x)) : wpX_valueOverOne post k x := by
  rcases hk with rfl | rfl | rfl | rfl | rfl | rfl
  · exact br_f (by decide) (br_f (by decide) (br_t rfl (xw_tr _ _ h)))
  · exact br_f (by decide) (br_f (by decide) (br_f (by decide) (br_t rfl (xw_cl _ _ h))))
  · have h : post (if x = 0 then 0 else 1) := h
    refine br_f (by decide) (br_f (by decide) (br_f (by decide) (br_f (by decide) (br_f (by decide) (br_f (by decide) (br_t rfl ?_))))))
    by_cases hx : x = 0
    · rw [if_pos hx] at h
      exact br_t hx h
    · rw [if_neg hx] at h
      exact br_f hx h
  · have h : post (if x = 0 then 1 else 0) := h
    refine br_f (by decide) (br_f (by decide) (br_f (by decide) (br_f (by decide) (br_f (by decide) (br_f (by decide) (br_f (by decide) (br_t rfl ?_)))))))
    by_cases hx : x = 0
    · rw [if_pos hx] at h
      exact br_t hx h
    · rw [if_neg hx] at h
      exact br_f hx h
  · have h : post (if ¬ x = 0 ∧ x &&& (x - 1) = 0 then 1 else 0) := h
    refine br_f (by decide) (br_f (by decide) (br_f (by decide) (br_f (by decide) (br_f (by decide) (br_f (by decide) (br_f (by decide) (br_f (by decide) (br_t rfl ?_))))))))
    by_cases hx : x = 0
    · rw [if_neg (fun z => z.1 hx)] at h
      exact br_t hx h
    · refine br_f hx ?_
      by_cases hy : x &&& (x - 1) = 0
      · rw [if_pos ⟨hx, hy⟩] at h
        exact br_t hy h
      · rw [if_neg (fun z => hy z.2)] at h
        exact br_f hy h
  · have h : post (if x = 0 then 1 else 0) := h
    refine br_f (by decide) (br_t (by decide) ?_)
    by_cases hx : x = 0
    · rw [if_pos hx] at h
      exact br_t hx h
    · rw [if_neg hx] at h
      exact br_f hx h
theorem xw_149 (post : Int32 → Prop) (l x : Int32) (h : post (if l &&& (x ^^^ (-1)) = 0 then 1 else 0)) : wX_valueOverTwo_149 post l x := by
  by_cases hx : l &&& (x ^^^ (-1)) = 0
  · rw [if_pos hx] at h
    exact br_t hx h
  · rw [if_neg hx] at h
    exact br_f hx h
theorem xw_x2 (post : Int32 → Prop) (s l x : Int32) (hk : s = 5 ∨ s = 6 ∨ s = 7 ∨ s = 9 ∨ s = 12 ∨ s = 13 ∨ s = 18 ∨ s = 19 ∨ s = 20 ∨ s = 23 ∨ s = 24 ∨ s = 25) (h : post (rf_x2 s l x)) : wpX_valueOverTwo post s l x := by
  rcases hk with rfl | rfl | rfl | rfl | rfl | rfl | rfl | rfl | rfl | rfl | rfl | rfl <;> refine br_f (by decide) (br_f (by decide) ?_)
  · exact br_t rfl h
  · exact br_f (by decide) (br_t rfl h)
  · exact br_f (by decide) (br_f (by decide) (br_t rfl h))
  · exact br_f (by decide) (br_f (by decide) (br_f (by decide) (br_f (by decide) (br_t rfl (xw_pr _ _ _ h)))))
  · iterate 7 refine br_f (by decide) ?_
    exact br_t rfl (xw_149 _ _ _ h)
  · iterate 8 refine br_f (by decide) ?_
    refine br_t rfl ?_
    have h : post (if l = x then 1 else 0) := h
    by_cases hx : l = x
    · rw [if_pos hx] at h
      exact br_t hx h
    · rw [if_neg hx] at h
      exact br_f hx h
  · iterate 13 refine br_f (by decide) ?_
    exact br_t rfl h
  · iterate 14 refine br_f (by decide) ?_
    exact br_t rfl h
  · iterate 15 refine br_f (by decide) ?_
    exact br_t rfl (xw_149 _ _ _ h)
  · iterate 18 refine br_f (by decide) ?_
    exact br_t rfl (xw_im _ _ _ h)
  · iterate 19 refine br_f (by decide) ?_
    exact br_t rfl (xw_pre _ _ _ h)
  · iterate 20 refine br_f (by decide) ?_
    exact br_t rfl (xw_co _ _ _ h)
theorem xw_oc (post : Int32 → Prop) (k : Int32) (hk : rf_kd k) (h : post (nI (rf_pp k))) : wpX_operandCount post k := by
  rcases rf_kg hk with hk | hk | hk | hk
  · rw [rf_pp0 hk] at h
    rcases hk with rfl | rfl | rfl | rfl
    · exact br_f (by decide) (br_f (by decide) (br_t rfl h))
    · exact br_f (by decide) (br_f (by decide) (br_f (by decide) (br_t rfl h)))
    · exact br_f (by decide) (br_f (by decide) (br_f (by decide) (br_f (by decide) (br_t rfl h))))
    · exact br_f (by decide) (br_f (by decide) (br_f (by decide) (br_f (by decide) (br_f (by decide) (br_t rfl h)))))
  · rw [(rf_pp1 hk).1] at h
    rcases hk with rfl | rfl | rfl | rfl | rfl | rfl
    · iterate 11 refine br_f (by decide) ?_
      exact br_t rfl h
    · iterate 12 refine br_f (by decide) ?_
      exact br_t rfl h
    · iterate 15 refine br_f (by decide) ?_
      exact br_t rfl h
    · iterate 16 refine br_f (by decide) ?_
      exact br_t rfl h
    · iterate 17 refine br_f (by decide) ?_
      exact br_t rfl h
    · iterate 18 refine br_f (by decide) ?_
      exact br_t rfl h
  · rw [(rf_pp2 hk).1] at h
    rcases hk with rfl | rfl | rfl | rfl | rfl | rfl | rfl | rfl | rfl | rfl
    · iterate 6 refine br_f (by decide) ?_
      exact br_t rfl h
    · iterate 7 refine br_f (by decide) ?_
      exact br_t rfl h
    · iterate 8 refine br_f (by decide) ?_
      exact br_t rfl h
    · iterate 9 refine br_f (by decide) ?_
      exact br_t rfl h
    · iterate 10 refine br_f (by decide) ?_
      exact br_t rfl h
    · iterate 13 refine br_f (by decide) ?_
      exact br_t rfl h
    · iterate 14 refine br_f (by decide) ?_
      exact br_t rfl h
    · iterate 19 refine br_f (by decide) ?_
      exact br_t rfl h
    · iterate 20 refine br_f (by decide) ?_
      exact br_t rfl h
    · iterate 21 refine br_f (by decide) ?_
      exact br_t rfl h
  · rcases hk with rfl | rfl
    · rw [rf_pp21] at h
      iterate 22 refine br_f (by decide) ?_
      exact br_t rfl h
    · rw [rf_pp22] at h
      iterate 23 refine br_f (by decide) ?_
      exact br_t rfl h
theorem xw_iq (post : Int32 → Prop) (k : Int32) (h : post (if k = 21 ∨ k = 22 then 1 else 0)) : wpX_isQuantifier post k := by
  by_cases h1 : k = 21
  · rw [if_pos (Or.inl h1)] at h
    exact br_t h1 h
  · by_cases h2 : k = 22
    · rw [if_pos (Or.inr h2)] at h
      exact br_f h1 (br_t h2 h)
    · rw [if_neg (fun z => z.elim h1 h2)] at h
      exact br_f h1 (br_f h2 h)
theorem xw_nv (post : Int32 → Prop) (k : Int32) (h : post (if k = 2 ∨ k = 21 ∨ k = 22 then 1 else 0)) : wpX_namesVariable post k := by
  by_cases h1 : k = 2
  · rw [if_pos (Or.inl h1)] at h
    exact br_t h1 h
  · refine br_f h1 ?_
    apply xw_iq
    by_cases h2 : k = 21 ∨ k = 22
    · rw [if_pos (Or.inr h2)] at h
      rw [if_pos h2]
      exact br_f (by decide) h
    · rw [if_neg (fun z => z.elim h1 h2)] at h
      rw [if_neg h2]
      exact br_t rfl h
theorem xw_ua (post : Int32 → Prop) (k : Int32) (h : post (if k = 1 ∨ k = 2 ∨ k = 21 ∨ k = 22 then 1 else 0)) : wpX_usesArg post k := by
  by_cases h1 : k = 1
  · rw [if_pos (Or.inl h1)] at h
    exact br_t h1 h
  · refine br_f h1 ?_
    apply xw_nv
    by_cases h2 : k = 2 ∨ k = 21 ∨ k = 22
    · rw [if_pos (Or.inr h2)] at h
      rw [if_pos h2]
      exact br_f (by decide) h
    · rw [if_neg (fun z => z.elim h1 h2)] at h
      rw [if_neg h2]
      exact br_t rfl h
end
section
/-! readers of the state: relations, tuples, free tuples -/
section
variable {xn xr xt xd xs xp xe : Int32} {ar rq ex tk ta sp sT sM hd pR pB vl md tt ns cu vs eT tm : Nat → Int32}
theorem xw_irn {R : Nat} (post : Int32 → Prop) (q : Int32) (h : q < 0 ∨ nI R ≤ q) (hp : post 0) : wpX_isRelation post (xn, nI R, xt, xd, xs, xp, xe, ar, rq, ex, tk, ta, sp, sT, sM, hd, pR, pB, vl) q :=
  br_c (fun _ => hp) (fun hn => br_t (h.resolve_left hn) hp)
theorem xw_irt {R j : Nat} (post : Int32 → Prop) (hR : R ≤ 4) (hj : j < R) (hp : post 1) : wpX_isRelation post (xn, nI R, xt, xd, xs, xp, xe, ar, rq, ex, tk, ta, sp, sT, sM, hd, pR, pB, vl) (nI j) :=
  br_f (nI_pos (by omega)) (br_f (nI_ge hj (by omega)) hp)
theorem xw_ian {N : Nat} (post : Int32 → Prop) (q : Int32) (h : q < 0 ∨ nI N ≤ q) (hp : post 0) : wpX_isAtom post (nI N, xr, xt, xd, xs, xp, xe, ar, rq, ex, tk, ta, sp, sT, sM, hd, pR, pB, vl) q :=
  br_c (fun _ => hp) (fun hn => br_t (h.resolve_left hn) hp)
theorem xw_iat {N j : Nat} (post : Int32 → Prop) (hN : N ≤ 4) (hj : j < N) (hp : post 1) : wpX_isAtom post (nI N, xr, xt, xd, xs, xp, xe, ar, rq, ex, tk, ta, sp, sT, sM, hd, pR, pB, vl) (nI j) :=
  br_f (nI_pos (by omega)) (br_f (nI_ge hj (by omega)) hp)
theorem rl_cl {j : Nat} (h : j < 2 ^ 31) (f : Nat → Int32) : f (nI j).toNatClampNeg = f j := by rw [nI_clamp h]
/-- a tuple: its bit, or nothing, on both sides -/
theorem rl_tup {N R : Nat} (hN : N ≤ 4) (hR : R ≤ 4) (q a b : Int32) :
    (∃ j i : Nat, j < R ∧ i < 16 ∧ q = nI j ∧ rf_vt N (ar j) i = true
      ∧ (∀ post : Int32 → Prop, post ((1 : Int32) <<< (nI i &&& 31)) → wpX_tupleBit post (nI N, nI R, xt, xd, xs, xp, xe, ar, rq, ex, tk, ta, sp, sT, sM, hd, pR, pB, vl) q a b)
      ∧ (∀ post : Int32 → Prop, post 1 → wpY_tupleOk post (nI N, nI R, xt, xd, xs, ar, md, tk, ta, tt, sT, sM, ns, cu, vs, eT, tm) q a b)
      ∧ ((q * 16) + (a * 4)) + b = nI (j * 16 + rf_tc (ar j) i)
      ∧ (ar j = 1 → a = nI i) ∧ (¬ ar j = 1 → (a * 4) + b = nI i))
    ∨ ((∀ post : Int32 → Prop, post 0 → wpX_tupleBit post (nI N, nI R, xt, xd, xs, xp, xe, ar, rq, ex, tk, ta, sp, sT, sM, hd, pR, pB, vl) q a b)
      ∧ (∀ post : Int32 → Prop, post 0 → wpY_tupleOk post (nI N, nI R, xt, xd, xs, ar, md, tk, ta, tt, sT, sM, ns, cu, vs, eT, tm) q a b)) := by
  rcases pk_ix q (n := R) (by omega) with h | h | ⟨j, hj, rfl⟩
  · exact Or.inr ⟨fun post hp => (by unfold wpX_tupleBit; dsimp only; exact xw_irn _ q (Or.inl h) (br_t rfl hp)), fun post hp => br_t h hp⟩
  · exact Or.inr ⟨fun post hp => (by unfold wpX_tupleBit; dsimp only; exact xw_irn _ q (Or.inr h) (br_t rfl hp)), fun post hp => br_c (fun _ => hp) (fun _ => br_f (Int32.not_lt.mpr h) hp)⟩
  · have q0 : ¬ nI j < 0 := nI_pos (by omega)
    have q1 : nI j < nI R := nI_lt hj (by omega)
    rcases pk_ix a (n := N) (by omega) with h | h | ⟨x, hx, rfl⟩
    · exact Or.inr ⟨fun post hp => (by unfold wpX_tupleBit; dsimp only; exact xw_irt _ hR hj (br_f (by decide) (xw_ian _ a (Or.inl h) (br_t rfl hp)))), fun post hp => br_f q0 (br_t q1 (br_t h hp))⟩
    · exact Or.inr ⟨fun post hp => (by unfold wpX_tupleBit; dsimp only; exact xw_irt _ hR hj (br_f (by decide) (xw_ian _ a (Or.inr h) (br_t rfl hp)))), fun post hp => br_f q0 (br_t q1 (br_c (fun _ => hp) (fun _ => br_f (Int32.not_lt.mpr h) hp)))⟩
    · have a0 : ¬ nI x < 0 := nI_pos (by omega)
      have a1 : nI x < nI N := nI_lt hx (by omega)
      have vi : vp_in (nI j) 4 := vp_in_nI (by omega) (by omega)
      have ej : ar (nI j).toNatClampNeg = ar j := rl_cl (by omega) ar
      by_cases hr : ar j = 1
      · have hr' : ar (nI j).toNatClampNeg = 1 := ej.trans hr
        by_cases hb : b = 0
        · refine Or.inl ⟨j, x, hj, by omega, rfl, (rf_vt1 hr).mpr hx, ?_, ?_, ?_, fun _ => rfl, fun z => absurd hr z⟩
          · exact fun post hp => by unfold wpX_tupleBit; dsimp only; exact xw_irt _ hR hj (br_f (by decide) (xw_iat _ hN hx (br_f (by decide) ⟨vi, br_t hr' (br_t hb hp)⟩)))
          · exact fun post hp => br_f q0 (br_t q1 (br_f a0 (br_t a1 ⟨vi, br_t hr' (br_t hb hp)⟩)))
          · unfold rf_tc
            rw [hb, if_pos hr, rf_16, rf_4, nI_add, Int32.add_zero]
        · refine Or.inr ⟨?_, ?_⟩
          · exact fun post hp => by unfold wpX_tupleBit; dsimp only; exact xw_irt _ hR hj (br_f (by decide) (xw_iat _ hN hx (br_f (by decide) ⟨vi, br_t hr' (br_f hb hp)⟩)))
          · exact fun post hp => br_f q0 (br_t q1 (br_f a0 (br_t a1 ⟨vi, br_t hr' (br_f hb hp)⟩)))
      · have hr' : ¬ ar (nI j).toNatClampNeg = 1 := fun z => hr (ej.symm.trans z)
        rcases pk_ix b (n := N) (by omega) with h | h | ⟨y, hy, rfl⟩
        · refine Or.inr ⟨?_, ?_⟩
          · exact fun post hp => by unfold wpX_tupleBit; dsimp only; exact xw_irt _ hR hj (br_f (by decide) (xw_iat _ hN hx (br_f (by decide) ⟨vi, br_f hr' (xw_ian _ b (Or.inl h) (br_t rfl hp))⟩)))
          · exact fun post hp => br_f q0 (br_t q1 (br_f a0 (br_t a1 ⟨vi, br_f hr' (br_t h hp)⟩)))
        · refine Or.inr ⟨?_, ?_⟩
          · exact fun post hp => by unfold wpX_tupleBit; dsimp only; exact xw_irt _ hR hj (br_f (by decide) (xw_iat _ hN hx (br_f (by decide) ⟨vi, br_f hr' (xw_ian _ b (Or.inr h) (br_t rfl hp))⟩)))
          · exact fun post hp => br_f q0 (br_t q1 (br_f a0 (br_t a1 ⟨vi, br_f hr' (br_c (fun _ => hp) (fun _ => br_t h hp))⟩)))
        · have ei : (nI x * 4) + nI y = nI (x * 4 + y) := by rw [rf_4, nI_add]
          refine Or.inl ⟨j, x * 4 + y, hj, by omega, rfl, (rf_vt2 hr).mpr ⟨by omega, by omega, by omega⟩, ?_, ?_, ?_, fun z => absurd z hr, fun _ => ei⟩
          · intro post hp
            unfold wpX_tupleBit
            dsimp only
            rw [ei]
            exact xw_irt _ hR hj (br_f (by decide) (xw_iat _ hN hx (br_f (by decide) ⟨vi, br_f hr' (xw_iat _ hN hy (br_f (by decide) hp))⟩)))
          · exact fun post hp => br_f q0 (br_t q1 (br_f a0 (br_t a1 ⟨vi, br_f hr' (br_f (nI_pos (by omega)) (br_f (nI_ge hy (by omega)) hp))⟩)))
          · unfold rf_tc
            rw [if_neg hr, rf_16, rf_4, nI_add, nI_add, Nat.add_assoc]
theorem xw_ft {N j : Nat} (post : Int32 → Prop) (hj : j < 4) (hp : post (rf_ft N (ar j) (rq j) (ex j))) : wpX_freeTuples post (nI N, xr, xt, xd, xs, xp, xe, ar, rq, ex, tk, ta, sp, sT, sM, hd, pR, pB, vl) (nI j) := by
  have vi : vp_in (nI j) 4 := vp_in_nI (by omega) (by omega)
  have ec : (nI j).toNatClampNeg = j := nI_clamp (by omega)
  unfold wpX_freeTuples wpX_allAtoms wX_freeTuples_24
  dsimp only
  rw [ec]
  unfold rf_ft at hp
  by_cases hr : ar j = 1
  · rw [if_pos hr] at hp
    exact ⟨vi, br_t hr ⟨vi, vi, hp⟩⟩
  · rw [if_neg hr] at hp
    exact ⟨vi, br_f hr (xw_pr _ _ _ ⟨vi, vi, hp⟩)⟩
theorem xw_fc {N R : Nat} (hN : N ≤ 4) (hR : R ≤ 4) (hb : rf_bd N ar md rq ex) (post : Int32 → Prop) (hp : post (nI (rf_cn (rf_fq N ar md) (R * 16)))) : wpX_freeCount post (nI N, nI R, xt, xd, xs, xp, xe, ar, rq, ex, tk, ta, sp, sT, sM, hd, pR, pB, vl) := by
  refine loop_0 (fun n i r => wX_freeCount_4 post (nI N) (nI R) xt xd xs xp xe ar rq ex tk ta sp sT sM hd pR pB vl n r (nI i)) (fun i r => r = nI (rf_cn (rf_fq N ar md) (i * 16))) R 0 nI_0.symm (fun n s h => ?_) (fun n i s hi h k => ?_)
  · refine br_t (nI_le (Nat.le_refl R) (by omega)) ?_
    rw [h]
    exact hp
  · refine br_f (nI_ge hi (by omega)) (xw_ft _ (by omega) (xw_sz _ _ ?_))
    refine nm_r (e' := nI (rf_cn (rf_fq N ar md) ((i + 1) * 16))) ?_ (nm_r (nI_1 i) (k _ rfl))
    rw [h]
    exact rf_szf hN hb (by omega)
theorem xw_id {N : Nat} (hN : N ≤ 4) (post : Int32 → Prop) (hp : post (rf_id N)) : wpX_identity post (nI N, xr, xt, xd, xs, xp, xe, ar, rq, ex, tk, ta, sp, sT, sM, hd, pR, pB, vl) := by
  refine rf_lo (fun n i r => wX_identity_4 post (nI N) xr xt xd xs xp xe ar rq ex tk ta sp sT sM hd pR pB vl n r (nI i)) (fun a => (1 : Int32) <<< (nI (a * 5) &&& 31)) N 0 (fun n => br_t (nI_le (Nat.le_refl N) (by omega)) hp) (fun n i r hi hn => ?_)
  refine br_f (nI_ge hi (by omega)) (nm_r ?_ (nm_r (nI_1 i) hn))
  rw [rf_4, nI_add, show i * 4 + i = i * 5 by omega]
theorem xw_lf {N R e : Nat} (hN : N ≤ 4) (hR : R ≤ 4) (he : e < 64) (post : Int32 → Prop) (k a : Int32) (hk : k = 1 ∨ k = 2 ∨ k = 3 ∨ k = 4) (hr : k = 1 → ∃ q : Nat, q < R ∧ a = nI q) (hv : k = 2 → ∃ v : Nat, v < 3 ∧ a = nI v) (hp : post (rf_lf N hd k a e)) : wpX_valueOfLeaf post (nI N, xr, xt, xd, xs, xp, xe, ar, rq, ex, tk, ta, sp, sT, sM, hd, pR, pB, vl) k a (nI e) := by
  rcases hk with rfl | rfl | rfl | rfl
  · obtain ⟨q, hq, rfl⟩ := hr rfl
    exact br_f (by decide) (br_f (by decide) (br_t rfl ⟨vp_in_nI (by omega) (by omega), hp⟩))
  · obtain ⟨v, hv3, rfl⟩ := hv rfl
    have hp : post ((1 : Int32) <<< (nI (rf_dg (nI v).toNatClampNeg e) &&& 31)) := hp
    rw [nI_clamp (show v < 2 ^ 31 by omega), ← rf_dgI v hv3 e he, ← rf_2] at hp
    exact br_f (by decide) (br_f (by decide) (br_f (by decide) (br_t rfl hp)))
  · exact br_f (by decide) (br_f (by decide) (br_f (by decide) (br_f (by decide) (br_t rfl hp))))
  · exact br_f (by decide) (br_t (by decide) (xw_id hN _ hp))
end
end
section
/-! Y's readers and operations -/
section
variable {xn xr xt xd xs : Int32} {ar md tk ta tt sT sM ns cu vs eT tm : Nat → Int32}
theorem yw_va {N j t : Nat} (hN : N ≤ 4) (hj : j < 4) (ht : t < 16) (post : Int32 → Prop) (hp : post (if rf_va N (ar j) t = true then 1 else 0)) : wpY_valid post (nI N, xr, xt, xd, xs, ar, md, tk, ta, tt, sT, sM, ns, cu, vs, eT, tm) (nI j) (nI t) := by
  have vi : vp_in (nI j) 4 := vp_in_nI (by omega) (by omega)
  have ec : ar (nI j).toNatClampNeg = ar j := by rw [nI_clamp (show j < 2 ^ 31 by omega)]
  refine nm_r (e' := nI (t / 4)) (pk_shrN (by omega) _ 2 (by decide)) (nm_r (e' := nI (t % 4)) (pk_andN (by omega) 2 (by decide)) ?_)
  unfold rf_va at hp
  by_cases h1 : t / 4 < N
  · refine br_t (nI_lt h1 (by omega)) ⟨vi, ?_⟩
    rw [ec]
    by_cases hr : ar j = 1
    · rw [if_pos hr] at hp
      refine br_t hr ?_
      by_cases h0 : t % 4 = 0
      · rw [if_pos (decide_eq_true ⟨h1, h0⟩)] at hp
        exact br_t (by rw [h0]; exact nI_0) hp
      · rw [if_neg (by rw [decide_eq_true_eq]; exact fun z => h0 z.2)] at hp
        exact br_f (nI_ne0 (by omega) (by omega)) hp
    · rw [if_neg hr] at hp
      refine br_f hr ?_
      by_cases h0 : t % 4 < N
      · rw [if_pos (decide_eq_true ⟨h1, h0⟩)] at hp
        exact br_f (nI_ge h0 (by omega)) hp
      · rw [if_neg (by rw [decide_eq_true_eq]; exact fun z => h0 z.2)] at hp
        exact br_t (nI_le (by omega) (by omega)) hp
  · refine br_f (nI_nlt (by omega) (by omega)) ?_
    by_cases hr : ar j = 1
    · rw [if_pos hr, if_neg (by rw [decide_eq_true_eq]; exact fun z => h1 z.1)] at hp
      exact hp
    · rw [if_neg hr, if_neg (by rw [decide_eq_true_eq]; exact fun z => h1 z.1)] at hp
      exact hp
theorem yw_ix {j t : Nat} (hj : j < 4) (ht : t < 16) : (nI j * 16) + nI t = nI (j * 16 + t) ∧ vp_in (nI (j * 16 + t)) 64 ∧ (nI (j * 16 + t)).toNatClampNeg = j * 16 + t :=
  ⟨by rw [rf_16, nI_add], vp_in_nI (by omega) (by omega), nI_clamp (by omega)⟩
theorem yw_fc {N R : Nat} (hN : N ≤ 4) (hR : R ≤ 4) (post : Int32 → Prop) (hp : post (nI (rf_cn (rf_fq N ar md) (R * 16)))) : wpY_freeCount post (nI N, nI R, xt, xd, xs, ar, md, tk, ta, tt, sT, sM, ns, cu, vs, eT, tm) := by
  refine loop_0 (fun n i r => wY_freeCount_4 post (nI N) (nI R) xt xd xs ar md tk ta tt sT sM ns cu vs eT tm n r (nI i)) (fun i r => r = nI (rf_cn (rf_fq N ar md) (i * 16))) R 0 nI_0.symm (fun n s h => ?_) (fun n i s hi h k => ?_)
  · refine br_t (nI_le (Nat.le_refl R) (by omega)) ?_
    rw [h]
    exact hp
  · refine br_f (nI_ge hi (by omega)) ?_
    refine loop_0 (fun m t r => wY_freeCount_14 post (wY_freeCount_4 post (nI N) (nI R) xt xd xs ar md tk ta tt sT sM ns cu vs eT tm n) (nI i) (nI N) (nI R) xt xd xs ar md tk ta tt sT sM ns cu vs eT tm m r (nI t)) (fun t r => r = nI (rf_ct N ar md i t)) 16 s (by rw [rf_ct0]; exact h) (fun m r hr => ?_) (fun m t r ht hr kk => ?_)
    · refine br_t (by decide) (nm_r (nI_1 i) (k _ ?_))
      rw [hr, rf_ct16 hN]
    · refine br_f (nI_ge (b := 16) ht (by decide)) (yw_va hN (by omega) ht _ ?_)
      obtain ⟨e1, e2, e3⟩ := yw_ix (j := i) (t := t) (by omega) ht
      by_cases hv : rf_va N (ar i) t = true
      · rw [if_pos hv]
        refine br_f (by decide) ?_
        rw [e1, e3]
        refine ⟨e2, ?_⟩
        have hc := rf_ctv hN ar md i ht hv
        by_cases h0 : md (i * 16 + t) = 0
        · rw [if_pos h0] at hc
          exact br_t h0 (nm_r (e' := nI (rf_ct N ar md i (t + 1))) (by rw [hr, hc, nI_1]) (nm_r (nI_1 t) (kk _ rfl)))
        · rw [if_neg h0, Nat.add_zero] at hc
          exact br_f h0 (nm_r (nI_1 t) (kk _ (by rw [hr, hc]; rfl)))
      · rw [if_neg hv]
        refine br_t rfl (nm_r (nI_1 t) (kk _ ?_))
        rw [hr, rf_ctn ar md i ht hv]
theorem yw_pp (post : Int32 → Prop) (k : Int32) (hk : rf_kd k) (h : post (nI (rf_pp k))) : wpY_pops post (xn, xr, xt, xd, xs, ar, md, tk, ta, tt, sT, sM, ns, cu, vs, eT, tm) k := by
  rcases rf_kg hk with hk | hk | hk | hk
  · rw [rf_pp0 hk] at h
    rcases hk with rfl | rfl | rfl | rfl <;> exact br_f (by decide) h
  · rw [(rf_pp1 hk).1] at h
    rcases hk with rfl | rfl | rfl | rfl | rfl | rfl
    · exact br_t (by decide) (br_t rfl h)
    · exact br_t (by decide) (br_f (by decide) (br_t rfl h))
    · exact br_t (by decide) (br_f (by decide) (br_f (by decide) (br_f (by decide) (br_t (by decide) h))))
    · exact br_t (by decide) (br_f (by decide) (br_f (by decide) (br_f (by decide) (br_t (by decide) h))))
    · exact br_t (by decide) (br_f (by decide) (br_f (by decide) (br_f (by decide) (br_t (by decide) h))))
    · exact br_t (by decide) (br_f (by decide) (br_f (by decide) (br_f (by decide) (br_t (by decide) h))))
  · rw [(rf_pp2 hk).1] at h
    rcases hk with rfl | rfl | rfl | rfl | rfl | rfl | rfl | rfl | rfl | rfl
    iterate 7 exact br_t (by decide) (br_f (by decide) (br_f (by decide) (br_t (by decide) (br_t (by decide) h))))
    iterate 3 exact br_t (by decide) (br_f (by decide) (br_f (by decide) (br_f (by decide) (br_f (by decide) (br_t (by decide) h)))))
  · rcases hk with rfl | rfl
    · rw [rf_pp21] at h
      exact br_t (by decide) (br_f (by decide) (br_f (by decide) (br_f (by decide) (br_f (by decide) (br_f (by decide) h)))))
    · rw [rf_pp22] at h
      exact br_t (by decide) (br_f (by decide) (br_f (by decide) (br_f (by decide) (br_f (by decide) (br_f (by decide) h)))))
theorem yw_co {N : Nat} (hN : N ≤ 4) (post : Int32 → Prop) (x y : Int32) (h : post (rf_yc N x y)) : wpY_compose post (nI N, xr, xt, xd, xs, ar, md, tk, ta, tt, sT, sM, ns, cu, vs, eT, tm) x y := by
  refine rf_lp (fun n i r => wY_compose_5 post x y (nI N) xr xt xd xs ar md tk ta tt sT sM ns cu vs eT tm n r (nI i)) (fun a r => rf_o1 r (fun b => if bt x (a * 4 + b) = true then ((y >>> (nI (b * 4) &&& 31)) &&& 15) <<< (nI (a * 4) &&& 31) else 0) N) N 0 (fun n => br_t (nI_le (Nat.le_refl N) (by omega)) ?_) (fun n i r hi hn => ?_)
  · rw [rf_o2it 0 (fun a b => if bt x (a * 4 + b) = true then ((y >>> (nI (b * 4) &&& 31)) &&& 15) <<< (nI (a * 4) &&& 31) else 0) N N]
    exact h
  · refine br_f (nI_ge hi (by omega)) ?_
    refine rf_lo (fun m j z => wY_compose_17 post (wY_compose_5 post x y (nI N) xr xt xd xs ar md tk ta tt sT sM ns cu vs eT tm n) x y (nI i) (nI N) xr xt xd xs ar md tk ta tt sT sM ns cu vs eT tm m z (nI j)) (fun b => if bt x (i * 4 + b) = true then ((y >>> (nI (b * 4) &&& 31)) &&& 15) <<< (nI (i * 4) &&& 31) else 0) N r (fun m => br_t (nI_le (Nat.le_refl N) (by omega)) (nm_r (nI_1 i) hn)) (fun m j z hj hm => ?_)
    have hm : wY_compose_17 post (wY_compose_5 post x y (nI N) xr xt xd xs ar md tk ta tt sT sM ns cu vs eT tm n) x y (nI i) (nI N) xr xt xd xs ar md tk ta tt sT sM ns cu vs eT tm m (z ||| (if bt x (i * 4 + j) = true then ((y >>> (nI (j * 4) &&& 31)) &&& 15) <<< (nI (i * 4) &&& 31) else 0)) (nI (j + 1)) := hm
    refine br_f (nI_ge hj (by omega)) ?_
    by_cases hb : bt x (i * 4 + j) = true
    · rw [if_pos hb] at hm
      exact br_t (by rw [rf_4, nI_add]; exact (rf_bo x (i * 4 + j) (by omega)).mpr hb) (nm_r (by rw [rf_4, rf_4]) (nm_r (nI_1 j) hm))
    · rw [if_neg hb, rf_or0] at hm
      exact br_f (by rw [rf_4, nI_add]; exact fun q => hb ((rf_bo x (i * 4 + j) (by omega)).mp q)) (nm_r (nI_1 j) hm)
theorem rf_b01 (x : Int32) (k : Nat) (hk : k < 32) {A : Prop} {B : Prop} (ht : bt x k = true → A) (hf : ¬ bt x k = true → B) : (((x >>> (nI k &&& 31)) &&& 1) = 1 → A) ∧ (¬ ((x >>> (nI k &&& 31)) &&& 1) = 1 → B) :=
  ⟨fun z => ht ((rf_bo x k hk).mp z), fun z => hf (fun w => z ((rf_bo x k hk).mpr w))⟩
theorem yw_p0 {N : Nat} (hN : N ≤ 4) (post : Int32 → Prop) (x y : Int32) (h : post (rf_y0 N x y)) : wpY_pairOp post (nI N, xr, xt, xd, xs, ar, md, tk, ta, tt, sT, sM, ns, cu, vs, eT, tm) 0 x y := by
  refine rf_lp (fun n i r => wY_pairOp_6 post 0 x y (nI N) xr xt xd xs ar md tk ta tt sT sM ns cu vs eT tm n r (nI i)) (fun a r => rf_o1 r (fun b => if bt x a = true ∧ bt y (a * 4 + b) = true then (1 : Int32) <<< (nI b &&& 31) else 0) N) N 0 (fun n => br_t (nI_le (Nat.le_refl N) (by omega)) ?_) (fun n i r hi hn => ?_)
  · rw [rf_o2it 0 (fun a b => if bt x a = true ∧ bt y (a * 4 + b) = true then (1 : Int32) <<< (nI b &&& 31) else 0) N N]
    exact h
  · refine br_f (nI_ge hi (by omega)) ?_
    refine rf_lo (fun m j z => wY_pairOp_18 post (wY_pairOp_6 post 0 x y (nI N) xr xt xd xs ar md tk ta tt sT sM ns cu vs eT tm n) 0 x y (nI i) (nI N) xr xt xd xs ar md tk ta tt sT sM ns cu vs eT tm m z (nI j)) (fun b => if bt x i = true ∧ bt y (i * 4 + b) = true then (1 : Int32) <<< (nI b &&& 31) else 0) N r (fun m => br_t (nI_le (Nat.le_refl N) (by omega)) (nm_r (nI_1 i) hn)) (fun m j z hj hm => ?_)
    have hm : wY_pairOp_18 post (wY_pairOp_6 post 0 x y (nI N) xr xt xd xs ar md tk ta tt sT sM ns cu vs eT tm n) 0 x y (nI i) (nI N) xr xt xd xs ar md tk ta tt sT sM ns cu vs eT tm m (z ||| (if bt x i = true ∧ bt y (i * 4 + j) = true then (1 : Int32) <<< (nI j &&& 31) else 0)) (nI (j + 1)) := hm
    refine br_f (nI_ge hj (by omega)) (nm_e (br_f (by decide) (nm_r (e' := (y >>> (nI (i * 4 + j) &&& 31)) &&& 1) (by rw [rf_4, nI_add]) (br_t rfl ?_))))
    refine rf_b01 x i (by omega) (fun h1 => ?_) (fun h1 => ?_)
    · refine rf_b01 y (i * 4 + j) (by omega) (fun h2 => ?_) (fun h2 => ?_)
      · rw [if_pos ⟨h1, h2⟩] at hm
        exact nm_e (br_f (by decide) (br_f (by decide) (br_f (by decide) (nm_r (nI_1 j) hm))))
      · rw [if_neg (fun z => h2 z.2), rf_or0] at hm
        exact br_f (by decide) (br_f (by decide) (br_f (by decide) (nm_r (nI_1 j) hm)))
    · rw [if_neg (fun z => h1 z.1), rf_or0] at hm
      exact br_f (by decide) (br_f (by decide) (br_f (by decide) (nm_r (nI_1 j) hm)))
theorem yw_p1 {N : Nat} (hN : N ≤ 4) (post : Int32 → Prop) (x y : Int32) (h : post (rf_y1 N x y)) : wpY_pairOp post (nI N, xr, xt, xd, xs, ar, md, tk, ta, tt, sT, sM, ns, cu, vs, eT, tm) 1 x y := by
  refine rf_lp (fun n i r => wY_pairOp_6 post 1 x y (nI N) xr xt xd xs ar md tk ta tt sT sM ns cu vs eT tm n r (nI i)) (fun a r => rf_o1 r (fun b => if bt x (a * 4 + b) = true ∧ bt y b = true then (1 : Int32) <<< (nI a &&& 31) else 0) N) N 0 (fun n => br_t (nI_le (Nat.le_refl N) (by omega)) ?_) (fun n i r hi hn => ?_)
  · rw [rf_o2it 0 (fun a b => if bt x (a * 4 + b) = true ∧ bt y b = true then (1 : Int32) <<< (nI a &&& 31) else 0) N N]
    exact h
  · refine br_f (nI_ge hi (by omega)) ?_
    refine rf_lo (fun m j z => wY_pairOp_18 post (wY_pairOp_6 post 1 x y (nI N) xr xt xd xs ar md tk ta tt sT sM ns cu vs eT tm n) 1 x y (nI i) (nI N) xr xt xd xs ar md tk ta tt sT sM ns cu vs eT tm m z (nI j)) (fun b => if bt x (i * 4 + b) = true ∧ bt y b = true then (1 : Int32) <<< (nI i &&& 31) else 0) N r (fun m => br_t (nI_le (Nat.le_refl N) (by omega)) (nm_r (nI_1 i) hn)) (fun m j z hj hm => ?_)
    have hm : wY_pairOp_18 post (wY_pairOp_6 post 1 x y (nI N) xr xt xd xs ar md tk ta tt sT sM ns cu vs eT tm n) 1 x y (nI i) (nI N) xr xt xd xs ar md tk ta tt sT sM ns cu vs eT tm m (z ||| (if bt x (i * 4 + j) = true ∧ bt y j = true then (1 : Int32) <<< (nI i &&& 31) else 0)) (nI (j + 1)) := hm
    refine br_f (nI_ge hj (by omega)) (nm_e (br_t rfl (nm_r (e' := (x >>> (nI (i * 4 + j) &&& 31)) &&& 1) (by rw [rf_4, nI_add]) (br_f (by decide) (br_t rfl ?_)))))
    refine rf_b01 x (i * 4 + j) (by omega) (fun h1 => ?_) (fun h1 => ?_)
    · refine rf_b01 y j (by omega) (fun h2 => ?_) (fun h2 => ?_)
      · rw [if_pos ⟨h1, h2⟩] at hm
        exact nm_e (br_f (by decide) (br_f (by decide) (nm_r (nI_1 j) hm)))
      · rw [if_neg (fun z => h2 z.2), rf_or0] at hm
        exact br_f (by decide) (br_f (by decide) (nm_r (nI_1 j) hm))
    · rw [if_neg (fun z => h1 z.1), rf_or0] at hm
      exact br_f (by decide) (br_f (by decide) (nm_r (nI_1 j) hm))
theorem yw_p2 {N : Nat} (hN : N ≤ 4) (post : Int32 → Prop) (x y : Int32) (h : post (rf_y2 N x y)) : wpY_pairOp post (nI N, xr, xt, xd, xs, ar, md, tk, ta, tt, sT, sM, ns, cu, vs, eT, tm) 2 x y := by
  refine rf_lp (fun n i r => wY_pairOp_6 post 2 x y (nI N) xr xt xd xs ar md tk ta tt sT sM ns cu vs eT tm n r (nI i)) (fun a r => rf_o1 r (fun b => if bt x a = true ∧ bt y b = true then (1 : Int32) <<< (nI (a * 4 + b) &&& 31) else 0) N) N 0 (fun n => br_t (nI_le (Nat.le_refl N) (by omega)) ?_) (fun n i r hi hn => ?_)
  · rw [rf_o2it 0 (fun a b => if bt x a = true ∧ bt y b = true then (1 : Int32) <<< (nI (a * 4 + b) &&& 31) else 0) N N]
    exact h
  · refine br_f (nI_ge hi (by omega)) ?_
    refine rf_lo (fun m j z => wY_pairOp_18 post (wY_pairOp_6 post 2 x y (nI N) xr xt xd xs ar md tk ta tt sT sM ns cu vs eT tm n) 2 x y (nI i) (nI N) xr xt xd xs ar md tk ta tt sT sM ns cu vs eT tm m z (nI j)) (fun b => if bt x i = true ∧ bt y b = true then (1 : Int32) <<< (nI (i * 4 + b) &&& 31) else 0) N r (fun m => br_t (nI_le (Nat.le_refl N) (by omega)) (nm_r (nI_1 i) hn)) (fun m j z hj hm => ?_)
    have hm : wY_pairOp_18 post (wY_pairOp_6 post 2 x y (nI N) xr xt xd xs ar md tk ta tt sT sM ns cu vs eT tm n) 2 x y (nI i) (nI N) xr xt xd xs ar md tk ta tt sT sM ns cu vs eT tm m (z ||| (if bt x i = true ∧ bt y j = true then (1 : Int32) <<< (nI (i * 4 + j) &&& 31) else 0)) (nI (j + 1)) := hm
    refine br_f (nI_ge hj (by omega)) (nm_e (br_f (by decide) (nm_e (br_f (by decide) (br_f (by decide) (br_t rfl ?_))))))
    refine rf_b01 x i (by omega) (fun h1 => ?_) (fun h1 => ?_)
    · refine rf_b01 y j (by omega) (fun h2 => ?_) (fun h2 => ?_)
      · rw [if_pos ⟨h1, h2⟩] at hm
        exact nm_r (by rw [rf_4, nI_add]) (br_f (by decide) (nm_r (nI_1 j) hm))
      · rw [if_neg (fun z => h2 z.2), rf_or0] at hm
        exact br_f (by decide) (nm_r (nI_1 j) hm)
    · rw [if_neg (fun z => h1 z.1), rf_or0] at hm
      exact br_f (by decide) (nm_r (nI_1 j) hm)
theorem yw_p3 {N : Nat} (hN : N ≤ 4) (post : Int32 → Prop) (x y : Int32) (h : post (rf_y3 N x)) : wpY_pairOp post (nI N, xr, xt, xd, xs, ar, md, tk, ta, tt, sT, sM, ns, cu, vs, eT, tm) 3 x y := by
  refine rf_lp (fun n i r => wY_pairOp_6 post 3 x y (nI N) xr xt xd xs ar md tk ta tt sT sM ns cu vs eT tm n r (nI i)) (fun a r => rf_o1 r (fun b => if bt x (a * 4 + b) = true then (1 : Int32) <<< (nI (b * 4 + a) &&& 31) else 0) N) N 0 (fun n => br_t (nI_le (Nat.le_refl N) (by omega)) ?_) (fun n i r hi hn => ?_)
  · rw [rf_o2it 0 (fun a b => if bt x (a * 4 + b) = true then (1 : Int32) <<< (nI (b * 4 + a) &&& 31) else 0) N N]
    exact h
  · refine br_f (nI_ge hi (by omega)) ?_
    refine rf_lo (fun m j z => wY_pairOp_18 post (wY_pairOp_6 post 3 x y (nI N) xr xt xd xs ar md tk ta tt sT sM ns cu vs eT tm n) 3 x y (nI i) (nI N) xr xt xd xs ar md tk ta tt sT sM ns cu vs eT tm m z (nI j)) (fun b => if bt x (i * 4 + b) = true then (1 : Int32) <<< (nI (b * 4 + i) &&& 31) else 0) N r (fun m => br_t (nI_le (Nat.le_refl N) (by omega)) (nm_r (nI_1 i) hn)) (fun m j z hj hm => ?_)
    have hm : wY_pairOp_18 post (wY_pairOp_6 post 3 x y (nI N) xr xt xd xs ar md tk ta tt sT sM ns cu vs eT tm n) 3 x y (nI i) (nI N) xr xt xd xs ar md tk ta tt sT sM ns cu vs eT tm m (z ||| (if bt x (i * 4 + j) = true then (1 : Int32) <<< (nI (j * 4 + i) &&& 31) else 0)) (nI (j + 1)) := hm
    refine br_f (nI_ge hj (by omega)) (nm_e (br_f (by decide) (nm_e (br_f (by decide) (br_f (by decide) (br_f (by decide) (br_t rfl ?_)))))))
    by_cases hb : bt x (i * 4 + j) = true
    · rw [if_pos hb] at hm
      exact br_t (by rw [rf_4, nI_add]; exact (rf_bo x (i * 4 + j) (by omega)).mpr hb) (nm_r (by rw [rf_4, nI_add]) (nm_r (nI_1 j) hm))
    · rw [if_neg hb, rf_or0] at hm
      exact br_f (by rw [rf_4, nI_add]; exact fun q => hb ((rf_bo x (i * 4 + j) (by omega)).mp q)) (nm_r (nI_1 j) hm)
theorem yw_q1 {N : Nat} (hN : N ≤ 4) (post : Int32 → Prop) (k x : Int32) (hp : post (rf_q1 N k x)) : wpY_op1 post (nI N, xr, xt, xd, xs, ar, md, tk, ta, tt, sT, sM, ns, cu, vs, eT, tm) k x := by
  unfold rf_q1 at hp
  by_cases h1 : k = 10
  · rw [if_pos h1] at hp
    exact br_t h1 (yw_p3 hN _ x 0 hp)
  rw [if_neg h1] at hp
  refine br_f h1 ?_
  by_cases h2 : k = 11
  · rw [if_pos h2] at hp
    refine br_t h2 ?_
    refine rf_lp (fun n i r => wY_op1_25 post (nI N) xr xt xd xs ar md tk ta tt sT sM ns cu vs eT tm n r (nI i)) (fun _ d => d ||| rf_yc N d d) N x (fun n => br_t (nI_le (Nat.le_refl N) (by omega)) hp) (fun n i r hi hn => ?_)
    exact br_f (nI_ge hi (by omega)) (yw_co hN _ r r (nm_e (nm_r (nI_1 i) hn)))
  rw [if_neg h2] at hp
  refine br_f h2 ?_
  by_cases h3 : k = 14
  · rw [if_pos h3] at hp
    refine br_t h3 ?_
    by_cases hx : x = 0
    · rw [if_pos hx] at hp
      exact br_t hx hp
    · rw [if_neg hx] at hp
      exact br_f hx hp
  rw [if_neg h3] at hp
  refine br_f h3 ?_
  by_cases h4 : k = 16
  · rw [if_pos h4] at hp
    refine br_t h4 ?_
    by_cases hx : x = 0
    · rw [if_neg (fun z => z.1 hx)] at hp
      exact br_t hx hp
    · refine br_f hx ?_
      by_cases hy : x &&& (x - 1) = 0
      · rw [if_pos ⟨hx, hy⟩] at hp
        exact br_t hy hp
      · rw [if_neg (fun z => hy z.2)] at hp
        exact br_f hy hp
  rw [if_neg h4] at hp
  refine br_f h4 ?_
  by_cases hx : x = 0
  · rw [if_pos hx] at hp
    exact br_t hx hp
  · rw [if_neg hx] at hp
    exact br_f hx hp
theorem yw_q2 {N : Nat} (hN : N ≤ 4) (post : Int32 → Prop) (k lt rt l x : Int32) (hp : post (rf_q2 N k lt rt l x)) : wpY_op2 post (nI N, xr, xt, xd, xs, ar, md, tk, ta, tt, sT, sM, ns, cu, vs, eT, tm) k lt rt l x := by
  unfold rf_q2 at hp
  by_cases h1 : k = 5
  · rw [if_pos (Or.inl h1)] at hp
    exact br_t h1 hp
  refine br_f h1 ?_
  by_cases h2 : k = 19
  · rw [if_pos (Or.inr h2)] at hp
    exact br_t h2 hp
  rw [if_neg (fun z => z.elim h1 h2)] at hp
  refine br_f h2 ?_
  by_cases h3 : k = 6
  · rw [if_pos (Or.inl h3)] at hp
    exact br_t h3 hp
  refine br_f h3 ?_
  by_cases h4 : k = 18
  · rw [if_pos (Or.inr h4)] at hp
    exact br_t h4 hp
  rw [if_neg (fun z => z.elim h3 h4)] at hp
  refine br_f h4 ?_
  by_cases h5 : k = 7
  · rw [if_pos h5] at hp
    exact br_t h5 hp
  rw [if_neg h5] at hp
  refine br_f h5 ?_
  by_cases h6 : k = 8
  · rw [if_pos h6] at hp
    refine br_t h6 ?_
    by_cases hl : lt = 1
    · rw [if_pos hl] at hp
      exact br_t hl (yw_p0 hN _ l x hp)
    · rw [if_neg hl] at hp
      refine br_f hl ?_
      by_cases hr : rt = 1
      · rw [if_pos hr] at hp
        exact br_t hr (yw_p1 hN _ l x hp)
      · rw [if_neg hr] at hp
        exact br_f hr (yw_co hN _ l x hp)
  rw [if_neg h6] at hp
  refine br_f h6 ?_
  by_cases h7 : k = 9
  · rw [if_pos h7] at hp
    exact br_t h7 (yw_p2 hN _ l x hp)
  rw [if_neg h7] at hp
  refine br_f h7 ?_
  by_cases h8 : k = 12
  · rw [if_pos h8] at hp
    refine br_t h8 ?_
    by_cases hx : l &&& (x ^^^ (-1)) = 0
    · rw [if_pos hx] at hp
      exact br_t hx hp
    · rw [if_neg hx] at hp
      exact br_f hx hp
  rw [if_neg h8] at hp
  refine br_f h8 ?_
  by_cases h9 : k = 13
  · rw [if_pos h9] at hp
    refine br_t h9 ?_
    by_cases hx : l = x
    · rw [if_pos hx] at hp
      exact br_t hx hp
    · rw [if_neg hx] at hp
      exact br_f hx hp
  rw [if_neg h9] at hp
  refine br_f h9 ?_
  by_cases hl : l = 0
  · rw [if_pos (Or.inl hl)] at hp
    exact br_t hl hp
  · refine br_f hl ?_
    by_cases hx : x = 0
    · rw [if_neg (fun z => z.elim hl (fun w => w hx))] at hp
      exact br_t hx hp
    · rw [if_pos (Or.inr hx)] at hp
      exact br_f hx hp
end
end
section
/-! X's evaluation of one token -/
section
variable {xn xr xt xd xs xp xe : Int32} {ar rq ex tk ta sp sT sM hd pR pB vl md tt ns cu vs eT tm : Nat → Int32}
theorem xw_e0 {N R E s : Nat} (hN : N ≤ 4) (hR : R ≤ 4) (hE : E ≤ 64) (hs : s < 32) (post : SX → Prop) (st a : Int32) (hk : st = 1 ∨ st = 2 ∨ st = 3 ∨ st = 4) (hr : st = 1 → ∃ q : Nat, q < R ∧ a = nI q) (hv : st = 2 → ∃ v : Nat, v < 3 ∧ a = nI v) (hp : post (nI N, xr, xt, xd, xs, xp, nI E, ar, rq, ex, tk, ta, sp, sT, sM, hd, pR, pB, rf_bk vl (s * 64) E (rf_gx N hd st a 0 vl (s * 64)))) :
    ∃ n, wX_evaluateToken_37 post (nI 0) (nI (s * 64)) st a (nI N) xr xt xd xs xp (nI E) n 0 ar rq ex tk ta sp sT sM hd pR pB vl := by
  refine loop_0 (fun n e w => wX_evaluateToken_37 post (nI 0) (nI (s * 64)) st a (nI N) xr xt xd xs xp (nI E) n (nI e) ar rq ex tk ta sp sT sM hd pR pB w) (fun e w => w = rf_bk vl (s * 64) e (rf_gx N hd st a 0 vl (s * 64))) E vl (rf_bk0 _ _ _).symm (fun n w h => br_t (nI_le (Nat.le_refl E) (by omega)) (by rw [h]; exact hp)) (fun n e w he h k => ?_)
  refine br_f (nI_ge he (by omega)) (nm_r (e' := nI (s * 64 + e)) (nI_add _ _) (br_t nI_0 (xw_lf hN hR (by omega) _ st a hk hr hv ?_)))
  refine ⟨vp_in_nI (by omega) (by omega), nm_r (e' := rf_bk vl (s * 64) (e + 1) (rf_gx N hd st a 0 vl (s * 64))) ?_ (nm_r (nI_1 e) (k _ rfl))⟩
  rw [h, nI_clamp (show s * 64 + e < 2 ^ 31 by omega)]
  exact rf_bks vl (s * 64) e (rf_gx N hd st a 0 vl (s * 64))
theorem xw_e1 {N E s : Nat} (hE : E ≤ 64) (hs : s < 32) (post : SX → Prop) (st a : Int32) (hk : st = 10 ∨ st = 11 ∨ st = 14 ∨ st = 15 ∨ st = 16 ∨ st = 17) (hp : post (nI N, xr, xt, xd, xs, xp, nI E, ar, rq, ex, tk, ta, sp, sT, sM, hd, pR, pB, rf_bk vl (s * 64) E (rf_gx N hd st a 1 vl (s * 64)))) :
    ∃ n, wX_evaluateToken_37 post (nI 1) (nI (s * 64)) st a (nI N) xr xt xd xs xp (nI E) n 0 ar rq ex tk ta sp sT sM hd pR pB vl := by
  refine loop_0 (fun n e w => wX_evaluateToken_37 post (nI 1) (nI (s * 64)) st a (nI N) xr xt xd xs xp (nI E) n (nI e) ar rq ex tk ta sp sT sM hd pR pB w) (fun e w => w = rf_bk vl (s * 64) e (rf_gx N hd st a 1 vl (s * 64))) E vl (rf_bk0 _ _ _).symm (fun n w h => br_t (nI_le (Nat.le_refl E) (by omega)) (by rw [h]; exact hp)) (fun n e w he h k => ?_)
  have ec : (nI (s * 64 + e)).toNatClampNeg = s * 64 + e := nI_clamp (by omega)
  have vi : vp_in (nI (s * 64 + e)) 2048 := vp_in_nI (by omega) (by omega)
  have er : w (nI (s * 64 + e)).toNatClampNeg = vl (s * 64 + e) := by
    rw [ec, h]
    exact rf_bko (Or.inr (by omega))
  refine br_f (nI_ge he (by omega)) (nm_r (e' := nI (s * 64 + e)) (nI_add _ _) (br_f (by decide) (br_t rfl ⟨vi, ?_⟩)))
  rw [er]
  refine xw_x1 _ st _ hk ⟨vi, nm_r (e' := rf_bk vl (s * 64) (e + 1) (rf_gx N hd st a 1 vl (s * 64))) ?_ (nm_r (nI_1 e) (k _ rfl))⟩
  rw [h, ec]
  exact rf_bks vl (s * 64) e (rf_gx N hd st a 1 vl (s * 64))
theorem xw_e2 {N E s : Nat} (hE : E ≤ 64) (hs : s < 31) (post : SX → Prop) (st a : Int32) (hk : st = 5 ∨ st = 6 ∨ st = 7 ∨ st = 9 ∨ st = 12 ∨ st = 13 ∨ st = 18 ∨ st = 19 ∨ st = 20 ∨ st = 23 ∨ st = 24 ∨ st = 25) (hp : post (nI N, xr, xt, xd, xs, xp, nI E, ar, rq, ex, tk, ta, sp, sT, sM, hd, pR, pB, rf_bk vl (s * 64) E (rf_gx N hd st a 2 vl (s * 64)))) :
    ∃ n, wX_evaluateToken_37 post (nI 2) (nI (s * 64)) st a (nI N) xr xt xd xs xp (nI E) n 0 ar rq ex tk ta sp sT sM hd pR pB vl := by
  refine loop_0 (fun n e w => wX_evaluateToken_37 post (nI 2) (nI (s * 64)) st a (nI N) xr xt xd xs xp (nI E) n (nI e) ar rq ex tk ta sp sT sM hd pR pB w) (fun e w => w = rf_bk vl (s * 64) e (rf_gx N hd st a 2 vl (s * 64))) E vl (rf_bk0 _ _ _).symm (fun n w h => br_t (nI_le (Nat.le_refl E) (by omega)) (by rw [h]; exact hp)) (fun n e w he h k => ?_)
  have ec : (nI (s * 64 + e)).toNatClampNeg = s * 64 + e := nI_clamp (by omega)
  have vi : vp_in (nI (s * 64 + e)) 2048 := vp_in_nI (by omega) (by omega)
  have e64 : nI (s * 64 + e) + 64 = nI (s * 64 + e + 64) := nI_add _ 64
  have er : w (nI (s * 64 + e)).toNatClampNeg = vl (s * 64 + e) := by
    rw [ec, h]
    exact rf_bko (Or.inr (by omega))
  have er2 : w (nI (s * 64 + e + 64)).toNatClampNeg = vl (s * 64 + e + 64) := by
    rw [nI_clamp (by omega), h]
    exact rf_bko (Or.inr (by omega))
  refine br_f (nI_ge he (by omega)) (nm_r (e' := nI (s * 64 + e)) (nI_add _ _) (br_f (by decide) (br_f (by decide) ⟨vi, ?_⟩)))
  rw [er, e64, er2]
  refine ⟨vp_in_nI (by omega) (by omega), xw_x2 _ st _ _ hk ⟨vi, nm_r (e' := rf_bk vl (s * 64) (e + 1) (rf_gx N hd st a 2 vl (s * 64))) ?_ (nm_r (nI_1 e) (k _ rfl))⟩⟩
  rw [h, ec]
  exact rf_bks vl (s * 64) e (rf_gx N hd st a 2 vl (s * 64))
theorem xw_qu {N E s v : Nat} (hN : N ≤ 4) (hE : E ≤ 64) (hs : s < 32) (hv : v < 3) (post : SX → Prop) (k : Int32) (hp : ∀ w, rf_qi N k v (s * 64) vl E w → post (nI N, xr, xt, xd, xs, xp, nI E, ar, rq, ex, tk, ta, sp, sT, sM, hd, pR, pB, w)) : wpX_quantify post (nI N, xr, xt, xd, xs, xp, nI E, ar, rq, ex, tk, ta, sp, sT, sM, hd, pR, pB, vl) k (nI v) (nI (s * 64)) := by
  refine nm_r (rf_2 v) ?_
  refine loop_0 (fun n env w => wX_quantify_8 post k (nI (s * 64)) (nI (2 * v)) (nI N) xr xt xd xs xp (nI E) n (nI env) ar rq ex tk ta sp sT sM hd pR pB w) (fun env w => rf_qi N k v (s * 64) vl env w) E vl (rf_qi0 N k v (s * 64) vl) (fun n w h => br_t (nI_le (Nat.le_refl E) (by omega)) (hp w h)) (fun n env w he h kk => ?_)
  refine br_f (nI_ge he (by omega)) ?_
  rw [rf_dgI v hv env (by omega)]
  by_cases hd0 : rf_dg v env = 0
  · rw [hd0]
    refine br_t nI_0 ?_
    have hix : ∀ a, a < N → (nI (s * 64) + nI env) + (nI a <<< (nI (2 * v) &&& 31)) = nI (s * 64 + env + a * 4 ^ v) ∧ vp_in (nI (s * 64 + env + a * 4 ^ v)) 2048 ∧ (nI (s * 64 + env + a * 4 ^ v)).toNatClampNeg = s * 64 + env + a * 4 ^ v := by
      intro a ha
      obtain ⟨_, _, c3⟩ := rf_cs v hv env (by omega) a (by omega) hd0
      exact ⟨by rw [rf_asI v hv a (by omega), nI_add, nI_add], vp_in_nI (by omega) (by omega), nI_clamp (by omega)⟩
    refine rf_lp (fun m a r => wX_quantify_36 post (wX_quantify_8 post k (nI (s * 64)) (nI (2 * v)) (nI N) xr xt xd xs xp (nI E) n) k (nI (s * 64)) (nI (2 * v)) (nI env) (nI N) xr xt xd xs xp (nI E) ar rq ex tk ta sp sT sM hd pR pB w m r (nI a)) (fun a r => r + vl (s * 64 + env + a * 4 ^ v)) N 0 (fun m => ?_) (fun m a r ha hm => ?_)
    · refine br_t (nI_le (Nat.le_refl N) (by omega)) ?_
      have hsm : rf_it (fun a r => r + vl (s * 64 + env + a * 4 ^ v)) 0 N = rf_sm N (fun a => vl (s * 64 + env + a * 4 ^ v)) := rfl
      rw [hsm]
      have wr : ∀ x8 : Int32, x8 = rf_rs N k v (s * 64) vl env → ∃ n104, wX_quantify_104 post (wX_quantify_8 post k (nI (s * 64)) (nI (2 * v)) (nI N) xr xt xd xs xp (nI E) n) k (nI (s * 64)) (nI (2 * v)) (nI env) x8 (nI N) xr xt xd xs xp (nI E) n104 0 ar rq ex tk ta sp sT sM hd pR pB w := by
        intro x8 e8
        refine loop_0 (fun m a w' => wX_quantify_104 post (wX_quantify_8 post k (nI (s * 64)) (nI (2 * v)) (nI N) xr xt xd xs xp (nI E) n) k (nI (s * 64)) (nI (2 * v)) (nI env) x8 (nI N) xr xt xd xs xp (nI E) m (nI a) ar rq ex tk ta sp sT sM hd pR pB (w')) (fun a w' => rf_qj N k v (s * 64) vl env a w') N w (rf_qij h) (fun m w' h' => br_t (nI_le (Nat.le_refl N) (by omega)) (nm_r (nI_1 env) (kk _ (rf_qji h')))) (fun m a w' ha h' k2 => ?_)
        obtain ⟨i1, i2, i3⟩ := hix a ha
        refine br_f (nI_ge ha (by omega)) ?_
        rw [i1, i3]
        exact ⟨i2, nm_r (e' := upd w' (s * 64 + env + a * 4 ^ v) (rf_rs N k v (s * 64) vl env)) (by rw [e8]) (nm_r (nI_1 a) (k2 _ (rf_qjs hN hv (by omega) hd0 ha h')))⟩
      by_cases hk : k = 21
      · refine br_t hk ?_
        by_cases hl : nI N ≤ rf_sm N (fun a => vl (s * 64 + env + a * 4 ^ v))
        · exact br_f (Int32.not_lt.mpr hl) (wr 1 (by unfold rf_rs; rw [if_pos hk, if_pos hl]))
        · exact br_t (Int32.not_le.mp hl) (wr 0 (by unfold rf_rs; rw [if_pos hk, if_neg hl]))
      · refine br_f hk ?_
        by_cases hl : 1 ≤ rf_sm N (fun a => vl (s * 64 + env + a * 4 ^ v))
        · exact br_f (Int32.not_lt.mpr hl) (wr 1 (by unfold rf_rs; rw [if_neg hk, if_pos hl]))
        · exact br_t (Int32.not_le.mp hl) (wr 0 (by unfold rf_rs; rw [if_neg hk, if_neg hl]))
    · obtain ⟨i1, i2, i3⟩ := hix a ha
      have hm : wX_quantify_36 post (wX_quantify_8 post k (nI (s * 64)) (nI (2 * v)) (nI N) xr xt xd xs xp (nI E) n) k (nI (s * 64)) (nI (2 * v)) (nI env) (nI N) xr xt xd xs xp (nI E) ar rq ex tk ta sp sT sM hd pR pB w m (r + vl (s * 64 + env + a * 4 ^ v)) (nI (a + 1)) := hm
      refine br_f (nI_ge ha (by omega)) ?_
      rw [i1, i3]
      exact ⟨i2, nm_r (by rw [rf_qir hN hv (by omega) hd0 ha h]) (nm_r (nI_1 a) hm)⟩
  · exact br_f (nI_ne0 (by omega) (by have := (rf_cd v hv env (by omega)).2.1; omega)) (nm_r (nI_1 env) (kk _ (rf_qin hv hd0 h)))
theorem rf_spg {k lt rt : Int32} (h : k = 5 ∨ k = 6 ∨ k = 7 ∨ k = 8 ∨ k = 9 ∨ k = 12 ∨ k = 13 ∨ k = 18 ∨ k = 19 ∨ k = 20) : rf_sp k lt rt = 5 ∨ rf_sp k lt rt = 6 ∨ rf_sp k lt rt = 7 ∨ rf_sp k lt rt = 9 ∨ rf_sp k lt rt = 12 ∨ rf_sp k lt rt = 13 ∨ rf_sp k lt rt = 18 ∨ rf_sp k lt rt = 19 ∨ rf_sp k lt rt = 20 ∨ rf_sp k lt rt = 23 ∨ rf_sp k lt rt = 24 ∨ rf_sp k lt rt = 25 := by
  by_cases h8 : k = 8
  · unfold rf_sp
    rw [if_pos h8]
    by_cases hl : lt = 1
    · rw [if_pos hl]
      decide
    · rw [if_neg hl]
      by_cases hr : rt = 1
      · rw [if_pos hr]
        decide
      · rw [if_neg hr]
        decide
  · rw [rf_sp0 h8]
    rcases h with rfl | rfl | rfl | rfl | rfl | rfl | rfl | rfl | rfl | rfl
    case inr.inr.inr.inl => exact absurd rfl h8
    all_goals decide
theorem rf_spn {k lt rt : Int32} (h : rf_kd k) : (rf_sp k lt rt = 21 ∨ rf_sp k lt rt = 22) ↔ (k = 21 ∨ k = 22) := by
  by_cases h8 : k = 8
  · unfold rf_sp
    rw [if_pos h8, h8]
    by_cases hl : lt = 1
    · rw [if_pos hl]
      decide
    · rw [if_neg hl]
      by_cases hr : rt = 1
      · rw [if_pos hr]
        decide
      · rw [if_neg hr]
        decide
  · rw [rf_sp0 h8]
theorem xw_ev {N R E g i h : Nat} (h1 : 1 ≤ N) (hN : N ≤ 4) (hR : R ≤ 4) (hg : g ≤ 3) (hEg : E = 4 ^ g) (hi : i < 32) (hh : h ≤ i) {ty cur : Nat → Int32} {S : Nat → Nat → Int32} {k tt : Int32} (hw : rf_wf R ar ty h k (ta i) tt (sp i)) (hvg : k = 2 ∨ k = 21 ∨ k = 22 → ∀ v : Nat, ta i = nI v → v < 3 → v < g) (hS : rf_St N h ty S) (he : ∀ q, q < R → hd q = cur q) (hA : rf_ag N E h vl S) (post : SX → Prop)
    (hp : ∀ w, rf_ag N E (h - rf_pp k + 1) w (fun t e => if t = h - rf_pp k then rf_nv N cur k (ta i) (rf_lt k ty h) (rf_rr k ty h) S t e else S t e) → post (nI N, xr, xt, xd, xs, xp, nI E, ar, rq, ex, tk, ta, sp, sT, sM, hd, pR, pB, w)) :
    wpX_evaluateToken post (nI N, xr, xt, xd, xs, xp, nI E, ar, rq, ex, tk, ta, sp, sT, sM, hd, pR, pB, vl) (nI i) (nI (rf_pp k)) (nI ((h - rf_pp k) * 64)) := by
  have hE64 : E ≤ 64 := by
    rw [hEg]
    have hc : g = 0 ∨ g = 1 ∨ g = 2 ∨ g = 3 := by omega
    rcases hc with rfl | rfl | rfl | rfl <;> decide
  have hpp := hw.2.1
  have vi : vp_in (nI i) 32 := vp_in_nI (by omega) (by omega)
  have ec : (nI i).toNatClampNeg = i := nI_clamp (by omega)
  unfold wpX_evaluateToken
  dsimp only
  rw [ec]
  refine ⟨vi, nm_e ⟨vi, nm_e (xw_iq _ _ ?_)⟩⟩
  have hst : sp i = rf_sp k (rf_lt k ty h) (rf_rr k ty h) := hw.2.2.2.2.2.2
  have hqn : (sp i = 21 ∨ sp i = 22) ↔ (k = 21 ∨ k = 22) := by
    rw [hst]
    exact rf_spn hw.1
  by_cases hq : k = 21 ∨ k = 22
  · rw [if_pos (hqn.mpr hq)]
    refine br_f (by decide) ?_
    have hp1 : rf_pp k = 1 := by rcases hq with rfl | rfl <;> decide +kernel
    have hsk : sp i = k := by
      rw [hst]
      rcases hq with rfl | rfl <;> rfl
    obtain ⟨v, hv, hva⟩ := hw.2.2.2.2.2.1 (Or.inr hq)
    rw [hsk, hva, hp1]
    refine xw_qu hN hE64 (by omega) hv _ k (fun w hqi => hp w ?_)
    rw [hp1]
    refine rf_agp hE64 hA (by omega) (fun j hj => hqi.1 j (Or.inl hj)) ?_
    rw [hva]
    rw [hva] at hw
    exact rf_xqag h1 hN hg hEg hw hq (hvg (Or.inr hq) v hva hv) rfl hS hA hqi
  · rw [if_neg (fun z => hq (hqn.mp z))]
    refine br_t rfl ?_
    have hpn : post (nI N, xr, xt, xd, xs, xp, nI E, ar, rq, ex, tk, ta, sp, sT, sM, hd, pR, pB, rf_bk vl ((h - rf_pp k) * 64) E (rf_gx N hd (sp i) (ta i) (rf_pp k) vl ((h - rf_pp k) * 64))) := by
      apply hp
      refine rf_agp hE64 hA (by omega) (fun j hj => rf_bko (Or.inl hj)) ?_
      intro e he' hgd
      rw [rf_bki he']
      exact rf_xag hN hR hE64 hw hq hS he hA e he' hgd
    rcases rf_kg hw.1 with hk | hk | hk | hk
    · have hp0 := rf_pp0 hk
      have hsk : sp i = k := by
        rw [hst]
        rcases hk with rfl | rfl | rfl | rfl <;> rfl
      rw [hp0] at hpn ⊢
      exact xw_e0 hN hR hE64 (by omega) post (sp i) (ta i) (by rw [hsk]; exact hk) (by rw [hsk]; exact hw.2.2.2.2.1) (by rw [hsk]; exact fun z => hw.2.2.2.2.2.1 (Or.inl z)) hpn
    · have hp1 := (rf_pp1 hk).1
      have hsk : sp i = k := by
        rw [hst]
        rcases hk with rfl | rfl | rfl | rfl | rfl | rfl <;> rfl
      rw [hp1] at hpn ⊢
      exact xw_e1 hE64 (by omega) post (sp i) (ta i) (by rw [hsk]; exact hk) hpn
    · have hp2 := (rf_pp2 hk).1
      rw [hp2] at hpn ⊢
      exact xw_e2 hE64 (by omega) post (sp i) (ta i) (by rw [hst]; exact rf_spg hk) hpn
    · exact absurd hk hq
end
end
section
/-! X: positions, environments, assignment, the formula's value -/
theorem rf_4g : ∀ g, g < 4 → (1 : Int32) <<< (nI (2 * g) &&& 31) = nI (4 ^ g) := by decide +kernel
theorem rf_2F : ∀ F, F < 13 → (1 : Int32) <<< (nI F &&& 31) = nI (2 ^ F) := by decide +kernel
section
variable {xn xr xt xd xs xp xe : Int32} {ar rq ex tk ta sp sT sM hd pR pB vl md tt ns cu vs eT tm : Nat → Int32}
theorem xw_lp {N R : Nat} (hN : N ≤ 4) (hR : R ≤ 4) (hb : rf_bd N ar md rq ex) (hF : rf_cn (rf_fq N ar md) (R * 16) ≤ 12) (post : SX → Prop) (hp : ∀ pR' pB', rf_pl N ar md (R * 16) pR' pB' → post (nI N, nI R, xt, xd, xs, nI (rf_cn (rf_fq N ar md) (R * 16)), xe, ar, rq, ex, tk, ta, sp, sT, sM, hd, pR', pB', vl)) : wpX_listPositions post (nI N, nI R, xt, xd, xs, xp, xe, ar, rq, ex, tk, ta, sp, sT, sM, hd, pR, pB, vl) := by
  refine loop_0 (fun n q (z : Int32 × (Nat → Int32) × (Nat → Int32)) => wX_listPositions_7 post (nI N) (nI R) xt xd xs xe n (nI q) z.1 ar rq ex tk ta sp sT sM hd z.2.1 z.2.2 vl) (fun q z => z.1 = nI (rf_cn (rf_fq N ar md) (q * 16)) ∧ rf_pl N ar md (q * 16) z.2.1 z.2.2) R (0, pR, pB) ⟨nI_0.symm, by rw [Nat.zero_mul]; exact rf_pl0 _ _ _ _ _⟩ (fun n z h => br_t (nI_le (Nat.le_refl R) (by omega)) (by rw [h.1]; exact hp _ _ h.2)) (fun n q z hq h k => ?_)
  refine br_f (nI_ge hq (by omega)) (xw_ft _ (by omega) ?_)
  refine loop_0 (fun m t (y : Int32 × (Nat → Int32) × (Nat → Int32)) => wX_listPositions_23 post (wX_listPositions_7 post (nI N) (nI R) xt xd xs xe n) (nI q) (rf_ft N (ar q) (rq q) (ex q)) (nI N) (nI R) xt xd xs xe m (nI t) y.1 ar rq ex tk ta sp sT sM hd y.2.1 y.2.2 vl) (fun t y => y.1 = nI (rf_cn (rf_fq N ar md) (q * 16 + t)) ∧ rf_pl N ar md (q * 16 + t) y.2.1 y.2.2) 16 z h (fun m y hy => ?_) (fun m t y ht hy kk => ?_)
  · refine br_t (by decide) (nm_r (nI_1 q) (k y ?_))
    rw [show (q + 1) * 16 = q * 16 + 16 by omega]
    exact hy
  · have hft := rf_ftb hN hb (show q < 4 by omega) t (by omega)
    rw [← rf_fqi N ar md q t ht] at hft
    refine br_f (nI_ge (b := 16) ht (by decide)) ?_
    by_cases hf : rf_fq N ar md (q * 16 + t) = true
    · have hlt := rf_cnlt (rf_fq N ar md) (show q * 16 + t < R * 16 by omega) hf
      refine br_f (fun z => (rf_bz _ t (by omega)).mp z (by rw [hft]; exact hf)) ?_
      have e16 : (q * 16 + t) / 16 = q := by omega
      have em : (q * 16 + t) % 16 = t := by omega
      have hpl := rf_plt hy.2 hf
      rw [e16, em] at hpl
      have vi : vp_in (nI (rf_cn (rf_fq N ar md) (q * 16 + t))) 12 := vp_in_nI (by omega) (by omega)
      rw [hy.1, nI_clamp (show rf_cn (rf_fq N ar md) (q * 16 + t) < 2 ^ 31 by omega)]
      refine br_f (nI_ge (b := 12) (by omega) (by decide)) ⟨vi, nm_e ⟨vi, nm_e (nm_r (nI_1 _) (nm_r (nI_1 t) (kk (_, _, _) ⟨?_, hpl⟩)))⟩⟩
      show nI _ = nI _
      rw [← Nat.add_assoc, rf_cnt hf]
    · refine br_t ((rf_bz _ t (by omega)).mpr (by rw [hft]; exact hf)) (nm_r (nI_1 t) (kk y ⟨?_, rf_pln hy.2 hf⟩))
      rw [← Nat.add_assoc, rf_cnf hf]
      exact hy.1
theorem xw_ce {R T : Nat} (hT : T ≤ 32) {tt : Nat → Int32} (hW : rf_WF R ar tk ta tt sp T) (post : SX → Prop) (hp : ∀ g, g ≤ 3 → (∀ i, i < T → tk i = 2 ∨ tk i = 21 ∨ tk i = 22 → ∀ v : Nat, ta i = nI v → v < 3 → v < g) → post (xn, xr, nI T, xd, xs, xp, nI (4 ^ g), ar, rq, ex, tk, ta, sp, sT, sM, hd, pR, pB, vl)) : wpX_countEnvironments post (xn, xr, nI T, xd, xs, xp, xe, ar, rq, ex, tk, ta, sp, sT, sM, hd, pR, pB, vl) := by
  refine loop_0 (fun n i (z : Int32) => wX_countEnvironments_4 post xn xr (nI T) xd xs xp xe ar rq ex tk ta sp sT sM hd pR pB vl n z (nI i)) (fun i z => ∃ g : Nat, g ≤ 3 ∧ z = nI g ∧ ∀ j, j < i → tk j = 2 ∨ tk j = 21 ∨ tk j = 22 → ∀ v : Nat, ta j = nI v → v < 3 → v < g) T 0 ⟨0, by omega, nI_0.symm, fun j hj => absurd hj (Nat.not_lt_zero j)⟩ (fun n z h => ?_) (fun n i z hi h k => ?_)
  · obtain ⟨g, hg, rfl, hall⟩ := h
    refine br_t (nI_le (Nat.le_refl T) (by omega)) (nm_r (e' := nI (4 ^ g)) ?_ (hp g hg hall))
    rw [rf_2]
    exact rf_4g g (by omega)
  · obtain ⟨g, hg, rfl, hall⟩ := h
    have vi : vp_in (nI i) 32 := vp_in_nI (by omega) (by omega)
    have ec : (nI i).toNatClampNeg = i := nI_clamp (by omega)
    refine br_f (nI_ge hi (by omega)) ?_
    rw [ec]
    refine ⟨vi, xw_nv _ _ ?_⟩
    by_cases hn : tk i = 2 ∨ tk i = 21 ∨ tk i = 22
    · rw [if_pos hn]
      obtain ⟨v, hv, ev⟩ := (hW i hi).2.2.2.2.2.1 hn
      refine br_f (by decide) ⟨vi, ?_⟩
      rw [ev]
      by_cases hvg : v < g
      · refine br_t (nI_lt hvg (by omega)) (nm_r (nI_1 i) (k _ ⟨g, hg, rfl, ?_⟩))
        intro j hj hnj w hw hw3
        by_cases e : j = i
        · subst e
          have e2 : nI v = nI w := ev.symm.trans hw
          rw [nI_eq (by omega) (by omega)] at e2
          omega
        · exact hall j (by omega) hnj w hw hw3
      · refine br_f (nI_nlt (by omega) (by omega)) ⟨vi, nm_r (nI_1 v) (nm_r (nI_1 i) (k _ ⟨v + 1, by omega, rfl, ?_⟩))⟩
        intro j hj hnj w hw hw3
        by_cases e : j = i
        · subst e
          have e2 : nI v = nI w := ev.symm.trans hw
          rw [nI_eq (by omega) (by omega)] at e2
          omega
        · have := hall j (by omega) hnj w hw hw3
          omega
    · rw [if_neg hn]
      refine br_t rfl (nm_r (nI_1 i) (k _ ⟨g, hg, rfl, ?_⟩))
      intro j hj hnj w hw hw3
      by_cases e : j = i
      · subst e
        exact absurd hnj hn
      · exact hall j (by omega) hnj w hw hw3
theorem xw_as {N R F c : Nat} (hN : N ≤ 4) (hR : R ≤ 4) (hF : F ≤ 12) (hb : rf_bd N ar md rq ex) (hFe : F = rf_cn (rf_fq N ar md) (R * 16)) (hpl : rf_pl N ar md (R * 16) pR pB) (post : SX → Prop) (hp : ∀ h, (∀ q, q < R → h q = rf_as N ar md F (nI c) q) → post (xn, nI R, xt, xd, xs, nI F, xe, ar, rq, ex, tk, ta, sp, sT, sM, h, pR, pB, vl)) : wpX_assign post (xn, nI R, xt, xd, xs, nI F, xe, ar, rq, ex, tk, ta, sp, sT, sM, hd, pR, pB, vl) (nI c) := by
  refine loop_0 (fun n q (h : Nat → Int32) => wX_assign_2 post (nI c) xn (nI R) xt xd xs (nI F) xe n (nI q) ar rq ex tk ta sp sT sM h pR pB vl) (fun i h => ∀ q, q < i → h q = rq q) R hd (fun q hq => absurd hq (Nat.not_lt_zero q)) (fun n h hh => ?_) (fun n i h hi hh k => ?_)
  · refine br_t (nI_le (Nat.le_refl R) (by omega)) ?_
    refine loop_0 (fun m i (h : Nat → Int32) => wX_assign_30 post (nI c) xn (nI R) xt xd xs (nI F) xe m (nI i) ar rq ex tk ta sp sT sM h pR pB vl) (fun i h => rf_hi N R F ar md rq (nI c) i h) F h (rf_hi0 hh) (fun m h' hh' => br_t (nI_le (Nat.le_refl F) (by omega)) (hp h' (rf_hie hN hR hb hFe hh'))) (fun m i h' hi hh' kk => ?_)
    have vi : vp_in (nI i) 12 := vp_in_nI (by omega) (by omega)
    have ec : (nI i).toNatClampNeg = i := nI_clamp (by omega)
    have es : (nI F - 1) - nI i = nI (F - 1 - i) := by
      rw [show (1 : Int32) = nI 1 from rfl, pk_sub (by omega), pk_sub (by omega)]
    obtain ⟨z, hz, hf, hx, h3, h4⟩ := hpl i (by omega)
    refine br_f (nI_ge hi (by omega)) ?_
    rw [es, ec, h3, h4, nI_clamp (show z / 16 < 2 ^ 31 by omega)]
    have vq : vp_in (nI (z / 16)) 4 := vp_in_nI (by omega) (by omega)
    by_cases hb : bt (nI c) (F - 1 - i) = true
    · exact br_f (fun z => (rf_bz _ _ (by omega)).mp z hb) ⟨vi, vq, vi, vq, nm_e (nm_r (nI_1 i) (kk _ (rf_hit hh' hb hz hf hx)))⟩
    · exact br_t ((rf_bz _ _ (by omega)).mpr hb) (nm_r (nI_1 i) (kk _ (rf_hin hh' hb)))
  · have vi : vp_in (nI i) 4 := vp_in_nI (by omega) (by omega)
    have ec : (nI i).toNatClampNeg = i := nI_clamp (by omega)
    refine br_f (nI_ge hi (by omega)) ?_
    rw [ec]
    refine ⟨vi, vi, nm_e (nm_r (nI_1 i) (k _ ?_))⟩
    intro q hq
    by_cases e : q = i
    · subst e
      exact pk_us
    · rw [pk_un e]
      exact hh q (by omega)
theorem xw_fh {N R T g : Nat} (h1 : 1 ≤ N) (hN : N ≤ 4) (hR : R ≤ 4) (hT : T ≤ 32) (hg : g ≤ 3) {tt cur : Nat → Int32} (hW : rf_WF R ar tk ta tt sp T) (hvg : ∀ i, i < T → tk i = 2 ∨ tk i = 21 ∨ tk i = 22 → ∀ v : Nat, ta i = nI v → v < 3 → v < g) (hc : ∀ q, q < R → rf_ok N (ar q) (cur q)) (he : ∀ q, q < R → hd q = cur q) (hD : rf_hg tk T = 1) (post : Int32 → SX → Prop)
    (hp : ∀ w, post (if rf_ps N cur tk ta tt T 0 0 = 0 then 0 else 1) (nI N, xr, nI T, xd, xs, xp, nI (4 ^ g), ar, rq, ex, tk, ta, sp, sT, sM, hd, pR, pB, w)) : wpX_formulaHolds post (nI N, xr, nI T, xd, xs, xp, nI (4 ^ g), ar, rq, ex, tk, ta, sp, sT, sM, hd, pR, pB, vl) := by
  have hEp : 0 < 4 ^ g := Nat.pow_pos (by decide)
  refine loop_0 (fun n i (w : Nat → Int32) => wX_formulaHolds_4 post n (nI (rf_hg tk i)) (nI i) (nI N) xr (nI T) xd xs xp (nI (4 ^ g)) ar rq ex tk ta sp sT sM hd pR pB w) (fun i w => rf_ag N (4 ^ g) (rf_hg tk i) w (rf_ps N cur tk ta tt i)) T vl (fun s hs => absurd hs (Nat.not_lt_zero s)) (fun n w h => ?_) (fun n i w hi h k => ?_)
  · refine br_t (nI_le (Nat.le_refl T) (by omega)) ?_
    have e0 : w 0 = rf_ps N cur tk ta tt T 0 0 := h 0 (by omega) 0 hEp (rf_gd0 h1)
    have hp := hp w
    rw [e0]
    by_cases hz : rf_ps N cur tk ta tt T 0 0 = 0
    · rw [if_pos hz] at hp
      exact br_t hz hp
    · rw [if_neg hz] at hp
      exact br_f hz hp
  · have vi : vp_in (nI i) 32 := vp_in_nI (by omega) (by omega)
    have ec : (nI i).toNatClampNeg = i := nI_clamp (by omega)
    have hw := hW i hi
    have hpp := hw.2.1
    have hhi := rf_hgi tk i
    refine br_f (nI_ge hi (by omega)) ?_
    rw [ec]
    refine ⟨vi, xw_oc _ _ hw.1 (nm_r (e' := nI (rf_hg tk i - rf_pp (tk i))) (pk_sub hpp) ?_)⟩
    rw [rf_64]
    refine xw_ev h1 hN hR hg rfl (by omega) hhi hw (hvg i hi) (rf_psok h1 hN hR hW hc i (by omega)) he h _ (fun w' hw' => ?_)
    exact nm_r (nI_1 _) (nm_r (nI_1 i) (k w' hw'))
end
end
section
/-! Y: leaves, quantifiers, operations, the formula's value, the assignment -/
section
variable {xn xr xt xd xs : Int32} {ar md tk ta tt sT sM ns cu vs eT tm : Nat → Int32}
theorem yw_l70 {s : Nat} (hs : s < 32) (post : SY → Prop) (k a x : Int32) (g : Nat → Int32) (h2 : k = 2 → ∃ v : Nat, v < 3 ∧ a = nI v ∧ ∀ e, e < 64 → g e = (1 : Int32) <<< (nI (rf_dg v e) &&& 31)) (hn : ¬ k = 2 → ∀ e, e < 64 → g e = x) (hp : post (xn, xr, xt, xd, xs, ar, md, tk, ta, tt, sT, sM, ns, cu, rf_bk vs (s * 64) 64 g, eT, tm)) : ∃ n, wY_leaf_70 post (nI s) k a x xn xr xt xd xs n 0 ar md tk ta tt sT sM ns cu vs eT tm := by
  refine loop_0 (fun n e w => wY_leaf_70 post (nI s) k a x xn xr xt xd xs n (nI e) ar md tk ta tt sT sM ns cu w eT tm) (fun e w => w = rf_bk vs (s * 64) e g) 64 vs (rf_bk0 _ _ _).symm (fun n w h => br_t (by decide) (by rw [h]; exact hp)) (fun n e w he h kk => ?_)
  have e1 : (nI s * 64) + nI e = nI (s * 64 + e) := by rw [rf_64, nI_add]
  have vi : vp_in (nI (s * 64 + e)) 2048 := vp_in_nI (by omega) (by omega)
  have ec : (nI (s * 64 + e)).toNatClampNeg = s * 64 + e := nI_clamp (by omega)
  refine br_f (nI_ge (b := 64) he (by decide)) ?_
  rw [e1, ec, h]
  by_cases hk : k = 2
  · obtain ⟨v, hv, rfl, hg⟩ := h2 hk
    refine br_t hk ⟨vi, nm_r (e' := rf_bk vs (s * 64) (e + 1) g) ?_ (nm_r (nI_1 e) (kk _ rfl))⟩
    rw [rf_2, rf_dgI v hv e he, ← hg e he]
    exact rf_bks vs (s * 64) e g
  · refine br_f hk ⟨vi, nm_r (e' := rf_bk vs (s * 64) (e + 1) g) ?_ (nm_r (nI_1 e) (kk _ rfl))⟩
    rw [← hn hk e he]
    exact rf_bks vs (s * 64) e g
theorem yw_lf {N R s : Nat} (hN : N ≤ 4) (hR : R ≤ 4) (hs : s < 32) (post : SY → Prop) (k a lt rt : Int32) (hk : k = 1 ∨ k = 2 ∨ k = 3 ∨ k = 4) (hr : k = 1 → ∃ q : Nat, q < R ∧ a = nI q) (hv : k = 2 → ∃ v : Nat, v < 3 ∧ a = nI v) (hp : post (nI N, xr, xt, xd, xs, ar, md, tk, ta, tt, sT, sM, ns, cu, rf_bk vs (s * 64) 64 (rf_gy N cu k a lt rt 0 vs (s * 64)), eT, tm)) : wpY_leaf post (nI N, xr, xt, xd, xs, ar, md, tk, ta, tt, sT, sM, ns, cu, vs, eT, tm) (nI s) k a := by
  rcases hk with rfl | rfl | rfl | rfl
  · obtain ⟨q, hq, rfl⟩ := hr rfl
    have e3 : nI q &&& 3 = nI q := by
      rw [pk_andN (by omega) 2 (by decide), Nat.mod_eq_of_lt (by omega)]
    refine br_t rfl ?_
    rw [e3]
    refine ⟨vp_in_nI (by omega) (by omega), nm_e (br_f (by decide) (br_f (by decide) ?_))⟩
    exact yw_l70 hs post 1 (nI q) _ _ (fun z => absurd z (by decide)) (fun _ e _ => rfl) hp
  · obtain ⟨v, hv3, rfl⟩ := hv rfl
    refine br_f (by decide) (br_f (by decide) (br_f (by decide) ?_))
    refine yw_l70 hs post 2 (nI v) _ _ (fun _ => ⟨v, hv3, rfl, fun e _ => ?_⟩) (fun z => absurd rfl z) hp
    show (1 : Int32) <<< (nI (rf_dg (nI v).toNatClampNeg e) &&& 31) = _
    rw [nI_clamp (show v < 2 ^ 31 by omega)]
  · refine br_f (by decide) (br_t rfl (nm_e (br_f (by decide) ?_)))
    exact yw_l70 hs post 3 a _ _ (fun z => absurd z (by decide)) (fun _ e _ => rfl) hp
  · refine br_f (by decide) (br_f (by decide) (br_t rfl ?_))
    refine rf_lo (fun n i r => wY_leaf_41 post (nI s) 4 a (nI N) xr xt xd xs ar md tk ta tt sT sM ns cu vs eT tm n r (nI i)) (fun b => (1 : Int32) <<< (nI (b * 5) &&& 31)) N 0 (fun n => br_t (nI_le (Nat.le_refl N) (by omega)) ?_) (fun n i r hi hn => ?_)
    · exact yw_l70 hs post 4 a _ _ (fun z => absurd z (by decide)) (fun _ e _ => rfl) hp
    · exact br_f (nI_ge hi (by omega)) (nm_r (by rw [rf_5]) (nm_r (nI_1 i) hn))
theorem yw_qu {N s v : Nat} (hN : N ≤ 4) (hs : s < 32) (hv : v < 3) (post : SY → Prop) (al : Int32) (hp : ∀ t, post (nI N, xr, xt, xd, xs, ar, md, tk, ta, tt, sT, sM, ns, cu, rf_bk vs (s * 64) 64 (fun e => if al = 0 then rf_qe N (fun d => vs (s * 64 + rf_sd v e d)) else rf_qa N (fun d => vs (s * 64 + rf_sd v e d))), eT, t)) : wpY_quant post (nI N, xr, xt, xd, xs, ar, md, tk, ta, tt, sT, sM, ns, cu, vs, eT, tm) (nI s) (nI v) al := by
  refine nm_r (rf_2 v) ?_
  generalize hG : (fun e => if al = 0 then rf_qe N (fun d => vs (s * 64 + rf_sd v e d)) else rf_qa N (fun d => vs (s * 64 + rf_sd v e d))) = G at hp
  have hG0 : ∀ e, al = 0 → rf_qe N (fun d => vs (s * 64 + rf_sd v e d)) = G e := by
    intro e h
    rw [← hG]
    exact (if_pos h).symm
  have hG1 : ∀ e, ¬ al = 0 → rf_qa N (fun d => vs (s * 64 + rf_sd v e d)) = G e := by
    intro e h
    rw [← hG]
    exact (if_neg h).symm
  refine loop_0 (fun n e t => wY_quant_8 post (nI s) al (nI (2 * v)) (nI N) xr xt xd xs n (nI e) ar md tk ta tt sT sM ns cu vs eT t) (fun e t => ∀ j, j < e → t j = G j) 64 tm (fun j hj => absurd hj (Nat.not_lt_zero j)) (fun n t h => br_t (by decide) ?_) (fun n e t he h kk => ?_)
  · refine loop_0 (fun m e w => wY_quant_113 post (nI s) (nI N) xr xt xd xs m (nI e) ar md tk ta tt sT sM ns cu w eT t) (fun e w => w = rf_bk vs (s * 64) e G) 64 vs (rf_bk0 _ _ _).symm (fun m w hw => br_t (by decide) (by rw [hw]; exact hp t)) (fun m e w he hw kk => ?_)
    have e1 : (nI s * 64) + nI e = nI (s * 64 + e) := by rw [rf_64, nI_add]
    refine br_f (nI_ge (b := 64) he (by decide)) ?_
    rw [e1, nI_clamp (show s * 64 + e < 2 ^ 31 by omega), nI_clamp (show e < 2 ^ 31 by omega), hw, h e he]
    refine ⟨vp_in_nI (by omega) (by omega), vp_in_nI (by omega) (by omega), nm_r (e' := rf_bk vs (s * 64) (e + 1) G) (rf_bks vs (s * 64) e G) (nm_r (nI_1 e) (kk _ rfl))⟩
  · have hix : ∀ d, d < N → (nI s * 64) + ((nI e &&& (((3 : Int32) <<< (nI (2 * v) &&& 31)) ^^^ (-1))) ||| (nI d <<< (nI (2 * v) &&& 31))) = nI (s * 64 + rf_sd v e d) ∧ vp_in (nI (s * 64 + rf_sd v e d)) 2048 ∧ (nI (s * 64 + rf_sd v e d)).toNatClampNeg = s * 64 + rf_sd v e d := by
      intro d hd
      have hlt : rf_sd v e d < 64 := rf_sdE (g := 3) (by omega) hv he (by omega)
      exact ⟨by rw [rf_sdI v hv e he d (by omega), rf_64, nI_add], vp_in_nI (by omega) (by omega), nI_clamp (by omega)⟩
    have hnext : ∀ r : Int32, r = G e → ∀ j, j < e + 1 → upd t e r j = G j := by
      intro r hr j hj
      by_cases ej : j = e
      · subst ej
        rw [pk_us]
        exact hr
      · rw [pk_un ej]
        exact h j (by omega)
    have vie : vp_in (nI e) 64 := vp_in_nI he (by omega)
    refine br_f (nI_ge (b := 64) he (by decide)) ?_
    by_cases ha : al = 0
    · refine br_t ha ?_
      refine rf_lp (fun m d r => wY_quant_29 post (wY_quant_8 post (nI s) al (nI (2 * v)) (nI N) xr xt xd xs n) (nI s) al (nI (2 * v)) (nI e) (nI N) xr xt xd xs ar md tk ta tt sT sM ns cu vs eT t m r (nI d)) (fun d r => if vs (s * 64 + rf_sd v e d) = 0 then r else 1) N 0 (fun m => br_t (nI_le (Nat.le_refl N) (by omega)) ?_) (fun m d r hd hm => ?_)
      · rw [nI_clamp (show e < 2 ^ 31 by omega)]
        exact ⟨vie, nm_e (nm_r (nI_1 e) (kk _ (hnext _ (hG0 e ha))))⟩
      · obtain ⟨i1, i2, i3⟩ := hix d hd
        have hm : wY_quant_29 post (wY_quant_8 post (nI s) al (nI (2 * v)) (nI N) xr xt xd xs n) (nI s) al (nI (2 * v)) (nI e) (nI N) xr xt xd xs ar md tk ta tt sT sM ns cu vs eT t m (if vs (s * 64 + rf_sd v e d) = 0 then r else 1) (nI (d + 1)) := hm
        refine br_f (nI_ge hd (by omega)) ?_
        rw [i1, i3]
        refine ⟨i2, nm_e (br_t ha (br_t ha ?_))⟩
        by_cases hx : vs (s * 64 + rf_sd v e d) = 0
        · rw [if_pos hx] at hm
          exact br_t hx (nm_r (nI_1 d) hm)
        · rw [if_neg hx] at hm
          exact br_f hx (nm_r (nI_1 d) hm)
    · refine br_f ha ?_
      refine rf_lp (fun m d r => wY_quant_29 post (wY_quant_8 post (nI s) al (nI (2 * v)) (nI N) xr xt xd xs n) (nI s) al (nI (2 * v)) (nI e) (nI N) xr xt xd xs ar md tk ta tt sT sM ns cu vs eT t m r (nI d)) (fun d r => if vs (s * 64 + rf_sd v e d) = 0 then 0 else r) N 1 (fun m => br_t (nI_le (Nat.le_refl N) (by omega)) ?_) (fun m d r hd hm => ?_)
      · rw [nI_clamp (show e < 2 ^ 31 by omega)]
        exact ⟨vie, nm_e (nm_r (nI_1 e) (kk _ (hnext _ (hG1 e ha))))⟩
      · obtain ⟨i1, i2, i3⟩ := hix d hd
        have hm : wY_quant_29 post (wY_quant_8 post (nI s) al (nI (2 * v)) (nI N) xr xt xd xs n) (nI s) al (nI (2 * v)) (nI e) (nI N) xr xt xd xs ar md tk ta tt sT sM ns cu vs eT t m (if vs (s * 64 + rf_sd v e d) = 0 then 0 else r) (nI (d + 1)) := hm
        refine br_f (nI_ge hd (by omega)) ?_
        rw [i1, i3]
        refine ⟨i2, nm_e (br_f ha ?_)⟩
        by_cases hx : vs (s * 64 + rf_sd v e d) = 0
        · rw [if_pos hx] at hm
          exact br_t hx (br_f ha (nm_r (nI_1 d) hm))
        · rw [if_neg hx] at hm
          exact br_f hx (br_f ha (nm_r (nI_1 d) hm))
theorem yw_a1 {N s : Nat} (hN : N ≤ 4) (hs : s < 32) (post : SY → Prop) (k a lt rt : Int32) (hp : post (nI N, xr, xt, xd, xs, ar, md, tk, ta, tt, sT, sM, ns, cu, rf_bk vs (s * 64) 64 (rf_gy N cu k a lt rt 1 vs (s * 64)), eT, tm)) : wpY_apply post (nI N, xr, xt, xd, xs, ar, md, tk, ta, tt, sT, sM, ns, cu, vs, eT, tm) (nI s) k lt rt 1 := by
  refine loop_0 (fun n e w => wY_apply_3 post (nI s) k lt rt 1 (nI N) xr xt xd xs n (nI e) ar md tk ta tt sT sM ns cu w eT tm) (fun e w => w = rf_bk vs (s * 64) e (rf_gy N cu k a lt rt 1 vs (s * 64))) 64 vs (rf_bk0 _ _ _).symm (fun n w h => br_t (by decide) (by rw [h]; exact hp)) (fun n e w he h kk => ?_)
  have e0 : (nI s + 1) - 1 = nI s := by rw [nI_1, nI_pred]
  have e1 : (nI s * 64) + nI e = nI (s * 64 + e) := by rw [rf_64, nI_add]
  have vi : vp_in (nI (s * 64 + e)) 2048 := vp_in_nI (by omega) (by omega)
  have ec : (nI (s * 64 + e)).toNatClampNeg = s * 64 + e := nI_clamp (by omega)
  refine br_f (nI_ge (b := 64) he (by decide)) ?_
  rw [e0, e1, ec]
  have er : w (s * 64 + e) = vs (s * 64 + e) := by
    rw [h]
    exact rf_bko (Or.inr (by omega))
  rw [er]
  refine ⟨vi, nm_e (br_t rfl (yw_q1 hN _ k _ ⟨vi, nm_r (e' := rf_bk vs (s * 64) (e + 1) (rf_gy N cu k a lt rt 1 vs (s * 64))) ?_ (nm_r (nI_1 e) (kk _ rfl))⟩))⟩
  rw [h]
  exact rf_bks vs (s * 64) e (rf_gy N cu k a lt rt 1 vs (s * 64))
theorem yw_a2 {N s : Nat} (hN : N ≤ 4) (hs : s < 31) (post : SY → Prop) (k a lt rt : Int32) (hp : post (nI N, xr, xt, xd, xs, ar, md, tk, ta, tt, sT, sM, ns, cu, rf_bk vs (s * 64) 64 (rf_gy N cu k a lt rt 2 vs (s * 64)), eT, tm)) : wpY_apply post (nI N, xr, xt, xd, xs, ar, md, tk, ta, tt, sT, sM, ns, cu, vs, eT, tm) (nI s) k lt rt 2 := by
  refine loop_0 (fun n e w => wY_apply_3 post (nI s) k lt rt 2 (nI N) xr xt xd xs n (nI e) ar md tk ta tt sT sM ns cu w eT tm) (fun e w => w = rf_bk vs (s * 64) e (rf_gy N cu k a lt rt 2 vs (s * 64))) 64 vs (rf_bk0 _ _ _).symm (fun n w h => br_t (by decide) (by rw [h]; exact hp)) (fun n e w he h kk => ?_)
  have e0 : (nI s + 2) - 1 = nI (s + 1) := by rw [show (2 : Int32) = nI 2 from rfl, nI_add, nI_pred]
  have e1 : (nI s * 64) + nI e = nI (s * 64 + e) := by rw [rf_64, nI_add]
  have e2 : (nI (s + 1) * 64) + nI e = nI (s * 64 + e + 64) := by rw [rf_64, nI_add, show (s + 1) * 64 + e = s * 64 + e + 64 by omega]
  have vi : vp_in (nI (s * 64 + e)) 2048 := vp_in_nI (by omega) (by omega)
  have ec : (nI (s * 64 + e)).toNatClampNeg = s * 64 + e := nI_clamp (by omega)
  have ec2 : (nI (s * 64 + e + 64)).toNatClampNeg = s * 64 + e + 64 := nI_clamp (by omega)
  refine br_f (nI_ge (b := 64) he (by decide)) ?_
  rw [e0, e1, e2, ec, ec2]
  have er : w (s * 64 + e) = vs (s * 64 + e) := by
    rw [h]
    exact rf_bko (Or.inr (by omega))
  have er2 : w (s * 64 + e + 64) = vs (s * 64 + e + 64) := by
    rw [h]
    exact rf_bko (Or.inr (by omega))
  rw [er, er2]
  refine ⟨vp_in_nI (by omega) (by omega), nm_e (br_f (by decide) ⟨vi, yw_q2 hN _ k lt rt _ _ ⟨vi, nm_r (e' := rf_bk vs (s * 64) (e + 1) (rf_gy N cu k a lt rt 2 vs (s * 64))) ?_ (nm_r (nI_1 e) (kk _ rfl))⟩⟩)⟩
  rw [h]
  exact rf_bks vs (s * 64) e (rf_gy N cu k a lt rt 2 vs (s * 64))
theorem yw_ev {N R T : Nat} (h1 : 1 ≤ N) (hN : N ≤ 4) (hR : R ≤ 4) (hT : T ≤ 32) {sp cur : Nat → Int32} (hW : rf_WF R ar tk ta tt sp T) (hc : ∀ q, q < R → rf_ok N (ar q) (cur q)) (he : ∀ q, q < R → cu q = cur q) (hD : rf_hg tk T = 1) (post : Int32 → SY → Prop)
    (hp : ∀ w e t, post (if rf_ps N cur tk ta tt T 0 0 = 0 then 0 else 1) (nI N, xr, nI T, xd, xs, ar, md, tk, ta, tt, sT, sM, ns, cu, w, e, t)) : wpY_eval post (nI N, xr, nI T, xd, xs, ar, md, tk, ta, tt, sT, sM, ns, cu, vs, eT, tm) := by
  refine loop_0 (fun n i (z : (Nat → Int32) × (Nat → Int32) × (Nat → Int32)) => wY_eval_4 post n (nI (rf_hg tk i)) (nI i) (nI N) xr (nI T) xd xs ar md tk ta tt sT sM ns cu z.1 z.2.1 z.2.2) (fun i z => rf_ag N 64 (rf_hg tk i) z.1 (rf_ps N cur tk ta tt i) ∧ ∀ s, s < rf_hg tk i → z.2.1 s = rf_ty tk tt i s) T (vs, eT, tm) ⟨fun s hs => absurd hs (Nat.not_lt_zero s), fun s hs => absurd hs (Nat.not_lt_zero s)⟩ (fun n z h => ?_) (fun n i z hi h k => ?_)
  · refine br_t (nI_le (Nat.le_refl T) (by omega)) ?_
    have e0 : z.1 0 = rf_ps N cur tk ta tt T 0 0 := h.1 0 (by omega) 0 (by omega) (rf_gd0 h1)
    have hp := hp z.1 z.2.1 z.2.2
    rw [e0]
    by_cases hz : rf_ps N cur tk ta tt T 0 0 = 0
    · rw [if_pos hz] at hp
      exact br_t hz hp
    · rw [if_neg hz] at hp
      exact br_f hz hp
  · obtain ⟨w, ev, t⟩ := z
    obtain ⟨hA, hE⟩ := h
    dsimp only at hA hE ⊢
    have vi : vp_in (nI i) 32 := vp_in_nI (by omega) (by omega)
    have ec : (nI i).toNatClampNeg = i := nI_clamp (by omega)
    have hw := hW i hi
    have hpp := hw.2.1
    have hhi := rf_hgi tk i
    have hSt := rf_psok h1 hN hR hW hc i (by omega)
    have kont : ∀ w' t', (∀ j, j < (rf_hg tk i - rf_pp (tk i)) * 64 → w' j = w j) → (∀ e, e < 64 → rf_gd N e → w' ((rf_hg tk i - rf_pp (tk i)) * 64 + e) = rf_nv N cur (tk i) (ta i) (rf_lt (tk i) (rf_ty tk tt i) (rf_hg tk i)) (rf_rr (tk i) (rf_ty tk tt i) (rf_hg tk i)) (rf_ps N cur tk ta tt i) (rf_hg tk i - rf_pp (tk i)) e) → wY_eval_159 post (wY_eval_4 post n) (nI i) (nI (rf_hg tk i - rf_pp (tk i))) (nI N) xr (nI T) xd xs ar md tk ta tt sT sM ns cu (w') ev (t') := by
      intro w' t' ho hn
      unfold wY_eval_159
      rw [ec, nI_clamp (show rf_hg tk i - rf_pp (tk i) < 2 ^ 31 by omega)]
      refine ⟨vi, vp_in_nI (by omega) (by omega), nm_e (nm_r (nI_1 _) (nm_r (nI_1 i) (k (w', upd ev (rf_hg tk i - rf_pp (tk i)) (tt i), t') ⟨?_, ?_⟩)))⟩
      · exact rf_agp (nv := fun s e => rf_nv N cur (tk i) (ta i) (rf_lt (tk i) (rf_ty tk tt i) (rf_hg tk i)) (rf_rr (tk i) (rf_ty tk tt i) (rf_hg tk i)) (rf_ps N cur tk ta tt i) s e) (Nat.le_refl 64) hA (by omega) ho hn
      · intro s hs
        have hs : s < rf_hg tk i - rf_pp (tk i) + 1 := hs
        show upd ev (rf_hg tk i - rf_pp (tk i)) (tt i) s = upd (rf_ty tk tt i) (rf_hg tk i - rf_pp (tk i)) (tt i) s
        by_cases es : s = rf_hg tk i - rf_pp (tk i)
        · subst es
          rw [pk_us, pk_us]
        · rw [pk_un es, pk_un es]
          exact hE s (by omega)
    refine br_f (nI_ge hi (by omega)) ?_
    rw [ec]
    refine ⟨vi, nm_e (yw_pp _ _ hw.1 (br_f (nI_nlt hpp (by omega)) ?_))⟩
    rw [pk_sub hpp]
    refine br_t (nI_lt (b := 32) (by omega) (by decide)) (nm_e ?_)
    have kontB : ∀ p, p = rf_pp (tk i) → ¬ (tk i = 21 ∨ tk i = 22) → wY_eval_159 post (wY_eval_4 post n) (nI i) (nI (rf_hg tk i - rf_pp (tk i))) (nI N) xr (nI T) xd xs ar md tk ta tt sT sM ns cu (rf_bk w ((rf_hg tk i - rf_pp (tk i)) * 64) 64 (rf_gy N cu (tk i) (ta i) (rf_lt (tk i) (rf_ty tk tt i) (rf_hg tk i)) (rf_rr (tk i) (rf_ty tk tt i) (rf_hg tk i)) p w ((rf_hg tk i - rf_pp (tk i)) * 64))) ev t := by
      intro p hpe hq
      apply kont
      · exact fun j hj => rf_bko (Or.inl hj)
      · intro e he' hgd
        rw [rf_bki he', hpe]
        exact rf_yag hR hw hq he hA e he' hgd
    rcases rf_kg hw.1 with hk | hk | hk | hk
    · have hp0 := rf_pp0 hk
      have hq : ¬ (tk i = 21 ∨ tk i = 22) := by
        intro z
        rcases z with z | z <;> rw [z] at hp0 <;> exact absurd hp0 (by decide +kernel)
      have hk0 := kontB 0 hp0.symm hq
      rw [hp0] at hk0 ⊢
      exact br_t nI_0 ⟨vi, yw_lf hN hR (by omega) _ (tk i) (ta i) _ _ hk hw.2.2.2.2.1 (fun z => hw.2.2.2.2.2.1 (Or.inl z)) hk0⟩
    · have hp1 := rf_pp1 hk
      have hk0 := kontB 1 hp1.1.symm (fun z => z.elim hp1.2.1 hp1.2.2)
      have el : rf_lt (tk i) (rf_ty tk tt i) (rf_hg tk i) = 0 := by
        unfold rf_lt
        rw [if_neg (by omega)]
      have er : rf_rr (tk i) (rf_ty tk tt i) (rf_hg tk i) = ev (rf_hg tk i - 1) := by
        unfold rf_rr
        rw [if_neg (by omega), hE _ (by omega)]
      rw [el, er] at hk0
      rw [hp1.1] at hk0 ⊢
      rw [nI_clamp (show rf_hg tk i - 1 < 2 ^ 31 by omega)]
      refine br_f (by decide) (br_f hp1.2.1 (br_f hp1.2.2 (br_t rfl ⟨vp_in_nI (by omega) (by omega), ?_⟩)))
      exact yw_a1 hN (by omega) _ (tk i) (ta i) _ _ hk0
    · have hp2 := rf_pp2 hk
      have hk0 := kontB 2 hp2.1.symm (fun z => z.elim hp2.2.1 hp2.2.2)
      have el : rf_lt (tk i) (rf_ty tk tt i) (rf_hg tk i) = ev (rf_hg tk i - 2) := by
        unfold rf_lt
        rw [if_pos hp2.1, hE _ (by omega)]
      have er : rf_rr (tk i) (rf_ty tk tt i) (rf_hg tk i) = ev (rf_hg tk i - 2 + 1) := by
        unfold rf_rr
        rw [if_neg (by omega), show rf_hg tk i - 2 + 1 = rf_hg tk i - 1 by omega, hE _ (by omega)]
      rw [el, er] at hk0
      rw [hp2.1] at hk0 ⊢
      rw [nI_1, nI_clamp (show rf_hg tk i - 2 < 2 ^ 31 by omega), nI_clamp (show rf_hg tk i - 2 + 1 < 2 ^ 31 by omega)]
      refine br_f (by decide) (br_f hp2.2.1 (br_f hp2.2.2 (br_f (by decide) ⟨vp_in_nI (by omega) (by omega), vp_in_nI (by omega) (by omega), ?_⟩)))
      exact yw_a2 hN (by omega) _ (tk i) (ta i) _ _ hk0
    · have hp1 : rf_pp (tk i) = 1 := by
        rcases hk with z | z <;> rw [z] <;> decide +kernel
      obtain ⟨v, hv, hva⟩ := hw.2.2.2.2.2.1 (Or.inr hk)
      have e3 : ta i &&& 3 = nI v := by
        rw [hva, pk_andN (by omega) 2 (by decide), Nat.mod_eq_of_lt (by omega)]
      have ecv : (ta i).toNatClampNeg = v := by
        rw [hva]
        exact nI_clamp (by omega)
      have hread : ∀ e, e < 64 → rf_gd N e → ∀ d, d < N → w ((rf_hg tk i - 1) * 64 + rf_sd v e d) = rf_ps N cur tk ta tt i (rf_hg tk i - 1) (rf_sd v e d) := by
        intro e he' hgd d hd
        have q := rf_sdg hN hv he' hgd hd
        exact hA (rf_hg tk i - 1) (by omega) _ q.2 q.1
      rw [hp1] at kont ⊢
      refine br_f (by decide) ?_
      rcases hk with hk | hk
      · refine br_t hk ?_
        unfold wY_eval_82 wY_eval_104
        rw [ec, e3]
        refine ⟨vi, br_t hk (yw_qu hN (by omega) hv _ 1 (fun t' => kont _ t' (fun j hj => rf_bko (Or.inl hj)) (fun e he' hgd => ?_)))⟩
        rw [rf_bki he', if_neg (by decide), hk, rf_nv21, ecv]
        exact rf_qac (hread e he' hgd)
      · refine br_f (by rw [hk]; decide) (br_t hk ?_)
        unfold wY_eval_82 wY_eval_104
        rw [ec, e3]
        refine ⟨vi, br_f (by rw [hk]; decide) (yw_qu hN (by omega) hv _ 0 (fun t' => kont _ t' (fun j hj => rf_bko (Or.inl hj)) (fun e he' hgd => ?_)))⟩
        rw [rf_bki he', if_pos rfl, hk, rf_nv22, ecv]
        exact rf_qec (hread e he' hgd)
end
end
section
/-! Y's assignment -/
section
variable {xn xr xt xd xs : Int32} {ar md tk ta tt sT sM ns cu vs eT tm : Nat → Int32}
theorem yw_bu {N R F c : Nat} (hN : N ≤ 4) (hR : R ≤ 4) (hF : F ≤ 12) (hFe : F = rf_cn (rf_fq N ar md) (R * 16)) (post : SY → Prop) (hp : ∀ h, (∀ q, q < R → h q = rf_as N ar md F (nI c) q) → post (nI N, nI R, xt, xd, xs, ar, md, tk, ta, tt, sT, sM, ns, h, vs, eT, tm)) : wpY_build post (nI N, nI R, xt, xd, xs, ar, md, tk, ta, tt, sT, sM, ns, cu, vs, eT, tm) (nI c) (nI F) := by
  refine loop_0 (fun n i (h : Nat → Int32) => wY_build_5 post (nI c) (nI F) 0 (nI N) (nI R) xt xd xs n (nI i) ar md tk ta tt sT sM ns h vs eT tm) (fun i h => ∀ x, x < i → h x = 0) 4 cu (fun q hq => absurd hq (Nat.not_lt_zero q)) (fun n h hh => br_t (by decide) ?_) (fun n i h hi hh k => ?_)
  · refine loop_0 (fun n q (z : Int32 × (Nat → Int32)) => wY_build_28 post (nI c) (nI F) (nI N) (nI R) xt xd xs n z.1 (nI q) ar md tk ta tt sT sM ns z.2 vs eT tm) (fun q z => z.1 = nI (rf_cn (rf_fq N ar md) (q * 16)) ∧ rf_cy N ar md F (nI c) q 0 z.2) R (0, h) ⟨nI_0.symm, rf_cy0 hh⟩ (fun n z hz => br_t (nI_le (Nat.le_refl R) (by omega)) (hp z.2 (rf_cye hR hz.2))) (fun n q z hq hz k => ?_)
    refine br_f (nI_ge hq (by omega)) ?_
    refine loop_0 (fun m t (y : Int32 × (Nat → Int32)) => wY_build_40 post (wY_build_28 post (nI c) (nI F) (nI N) (nI R) xt xd xs n) (nI c) (nI F) (nI q) (nI N) (nI R) xt xd xs m y.1 (nI t) ar md tk ta tt sT sM ns y.2 vs eT tm) (fun t y => y.1 = nI (rf_ct N ar md q t) ∧ rf_cy N ar md F (nI c) q t y.2) 16 z ⟨by rw [rf_ct0]; exact hz.1, hz.2⟩ (fun m y hy => br_t (by decide) (nm_r (nI_1 q) (k y ⟨by rw [hy.1, rf_ct16 hN], rf_cyq hN hy.2⟩))) (fun m t y ht hy kk => ?_)
    obtain ⟨x3, cr⟩ := y
    obtain ⟨hy1, hy2⟩ := hy
    dsimp only at hy1 hy2 ⊢
    obtain ⟨e1, e2, e3⟩ := yw_ix (j := q) (t := t) (by omega) ht
    have vq : vp_in (nI q) 4 := vp_in_nI (by omega) (by omega)
    have ecq : (nI q).toNatClampNeg = q := nI_clamp (by omega)
    have et2 : nI t >>> ((2 : Int32) &&& 31) = nI (t / 4) := pk_shrN (by omega) _ 2 (by decide)
    refine br_f (nI_ge (b := 16) ht (by decide)) (yw_va hN (by omega) ht _ ?_)
    by_cases hv : rf_va N (ar q) t = true
    · rw [if_pos hv, e1, e3]
      have honc := rf_onc hN (F := F) (c := nI c) (md := md) ht hv
      have hct := rf_ctv hN ar md q ht hv
      -- the store, or none
      have w1 : ∀ x : Int32, x = nI (rf_ct N ar md q (t + 1)) → rf_on N ar md F (nI c) q (rf_rh (ar q) t) = true → wY_build_117 post (wY_build_28 post (nI c) (nI F) (nI N) (nI R) xt xd xs n) (wY_build_40 post (wY_build_28 post (nI c) (nI F) (nI N) (nI R) xt xd xs n) (nI c) (nI F) (nI q) (nI N) (nI R) xt xd xs m) (nI c) (nI F) x (nI q) (nI t) 1 (nI N) (nI R) xt xd xs ar md tk ta tt sT sM ns cr vs eT tm := by
        intro x hx hon
        have hcy := rf_cyt hN (show q < 4 by omega) ht hv hon hy2
        unfold wY_build_117
        rw [ecq, et2]
        refine br_f (by decide) ⟨vq, vq, ?_⟩
        by_cases hr : ar q = 1
        · rw [if_pos hr] at hcy
          exact br_t hr ⟨vq, nm_e (nm_r (nI_1 t) (kk (x, _) ⟨hx, hcy⟩))⟩
        · rw [if_neg hr] at hcy
          exact br_f hr ⟨vq, nm_e (nm_r (nI_1 t) (kk (x, _) ⟨hx, hcy⟩))⟩
      have w0 : ∀ x : Int32, x = nI (rf_ct N ar md q (t + 1)) → ¬ rf_on N ar md F (nI c) q (rf_rh (ar q) t) = true → wY_build_117 post (wY_build_28 post (nI c) (nI F) (nI N) (nI R) xt xd xs n) (wY_build_40 post (wY_build_28 post (nI c) (nI F) (nI N) (nI R) xt xd xs n) (nI c) (nI F) (nI q) (nI N) (nI R) xt xd xs m) (nI c) (nI F) x (nI q) (nI t) 0 (nI N) (nI R) xt xd xs ar md tk ta tt sT sM ns cr vs eT tm := by
        intro x hx hon
        exact br_t rfl (nm_r (nI_1 t) (kk (x, cr) ⟨hx, rf_cyo hN ht hv hon hy2⟩))
      refine br_f (by decide) ⟨e2, nm_e ?_⟩
      by_cases hm1 : md (q * 16 + t) = 1
      · have hm0 : ¬ md (q * 16 + t) = 0 := by
          rw [hm1]
          decide
        rw [if_neg hm0] at hct
        exact br_t hm1 (br_f hm0 (w1 x3 (by rw [hy1, hct]; rfl) (honc.mpr (Or.inl hm1))))
      · refine br_f hm1 ?_
        by_cases hm0 : md (q * 16 + t) = 0
        · rw [if_pos hm0] at hct
          have hlt : rf_ct N ar md q t < F := by
            have hf : rf_fq N ar md (q * 16 + rf_rh (ar q) t) = true := by
              obtain ⟨_, g2, g3, g4, _⟩ := rf_rhv hN ht hv
              rw [rf_fqi N ar md q _ g4]
              unfold rf_fr
              rw [g3, g2, Bool.true_and]
              exact decide_eq_true hm0
            have := rf_rhv hN ht hv
            rw [hFe]
            exact rf_cnlt _ (by omega) hf
          have es : (nI F - 1) - x3 = nI (F - 1 - rf_ct N ar md q t) := by
            rw [hy1, show (1 : Int32) = nI 1 from rfl, pk_sub (by omega), pk_sub (by omega)]
          have ex3 : x3 + 1 = nI (rf_ct N ar md q (t + 1)) := by rw [hy1, hct, nI_1]
          refine br_t hm0 ?_
          rw [es]
          refine rf_b01 (nI c) _ (by omega) (fun hb => ?_) (fun hb => ?_)
          · exact nm_e (w1 _ ex3 (honc.mpr (Or.inr ⟨hm0, hb⟩)))
          · exact nm_e (w0 _ ex3 (fun z => (honc.mp z).elim hm1 (fun z => hb z.2)))
        · rw [if_neg hm0] at hct
          exact br_f hm0 (w0 x3 (by rw [hy1, hct]; rfl) (fun z => (honc.mp z).elim hm1 (fun z => hm0 z.1)))
    · rw [if_neg hv]
      exact br_t rfl (nm_r (nI_1 t) (kk (x3, cr) ⟨by rw [hy1, rf_ctn ar md q ht hv], rf_cyn ht hv hy2⟩))
  · have ec : (nI i).toNatClampNeg = i := nI_clamp (by omega)
    refine br_f (nI_ge (b := 4) hi (by decide)) ?_
    rw [ec]
    refine ⟨vp_in_nI (by omega) (by omega), nm_e (nm_r (nI_1 i) (k _ ?_))⟩
    intro q hq
    by_cases e : q = i
    · subst e
      exact pk_us
    · rw [pk_un e]
      exact hh q (by omega)
end
end
section
/-! add: types, masks, steps -/
def rf_er (t : Int32) : Int32 := if t = -1 then -5 else t
theorem xw_t1 (post : Int32 → Prop) (k lt rt ra : Int32) (hk : k = 10 ∨ k = 11 ∨ k = 14 ∨ k = 15 ∨ k = 16 ∨ k = 17 ∨ k = 21 ∨ k = 22) (hr : rt = 0 ∨ rt = 1 ∨ rt = 2) (h : post (rf_er (rf_rt k lt rt ra))) : wpX_typeOverOne post k rt := by
  rcases hk with rfl | rfl | rfl | rfl | rfl | rfl | rfl | rfl <;> rcases hr with rfl | rfl | rfl <;> unfold wpX_typeOverOne wX_typeOverOne_67 wX_typeOverOne_44 wX_typeOverOne_56 <;> repeat (first | exact h | refine br_t (by decide) ?_ | refine br_f (by decide) ?_)
theorem xw_t2 (post : Int32 → Prop) (k lt rt ra : Int32) (hk : k = 5 ∨ k = 6 ∨ k = 7 ∨ k = 8 ∨ k = 9 ∨ k = 12 ∨ k = 13 ∨ k = 18 ∨ k = 19 ∨ k = 20) (hl : lt = 0 ∨ lt = 1 ∨ lt = 2) (hr : rt = 0 ∨ rt = 1 ∨ rt = 2) (h : post (rf_er (rf_rt k lt rt ra))) : wpX_typeOverTwo post k lt rt := by
  rcases hk with rfl | rfl | rfl | rfl | rfl | rfl | rfl | rfl | rfl | rfl <;> rcases hl with rfl | rfl | rfl <;> rcases hr with rfl | rfl | rfl <;> unfold wpX_typeOverTwo wX_typeOverTwo_10 wX_typeOverTwo_23 wX_typeOverTwo_24 wX_typeOverTwo_153 wX_typeOverTwo_76 wX_typeOverTwo_126 wX_typeOverTwo_92 <;> repeat (first | exact h | refine br_t (by decide) ?_ | refine br_f (by decide) ?_)
section
variable {xn xr xt xd xs xp xe : Int32} {ar rq ex tk ta sp sT sM hd pR pB vl md tt ns cu vs eT tm : Nat → Int32}
theorem xw_rt {D : Nat} (hD : D ≤ 32) (post : Int32 → Prop) (k a : Int32) (hk : rf_kd k) (hp : rf_pp k ≤ D) (ha : k = 1 → ∃ q : Nat, q < 4 ∧ a = nI q ∧ (ar q = 1 ∨ ar q = 2)) (hT : ∀ s, s < D → sT s = 0 ∨ sT s = 1 ∨ sT s = 2) (h : post (rf_er (rf_rt k (rf_lt k sT D) (rf_rr k sT D) (ar a.toNatClampNeg)))) : wpX_resultType post (xn, xr, xt, nI D, xs, xp, xe, ar, rq, ex, tk, ta, sp, sT, sM, hd, pR, pB, vl) k a (nI (rf_pp k)) := by
  rcases rf_kg hk with hg | hg | hg | hg
  · have hp0 := rf_pp0 hg
    rw [hp0]
    refine br_t nI_0 ?_
    rcases hg with rfl | rfl | rfl | rfl
    · obtain ⟨q, hq, rfl, hr⟩ := ha rfl
      have h : post (rf_er (ar (nI q).toNatClampNeg)) := h
      refine br_t rfl ⟨vp_in_nI (by omega) (by omega), ?_⟩
      have ec : ar (nI q).toNatClampNeg = ar q := by rw [nI_clamp (show q < 2 ^ 31 by omega)]
      rw [ec] at h ⊢
      rcases hr with hr | hr
      · rw [hr] at h
        exact br_t hr h
      · rw [hr] at h
        exact br_f (by rw [hr]; decide) h
    · exact br_f (by decide) (br_f (by decide) h)
    · exact br_f (by decide) (br_f (by decide) h)
    · exact br_f (by decide) (br_t rfl h)
  · have hp1 := (rf_pp1 hg).1
    have er : rf_rr k sT D = sT (D - 1) := by
      unfold rf_rr
      rw [if_neg (by omega)]
    have es : nI D - 1 = nI (D - 1) := pk_sub (b := 1) (by omega)
    have ec : (nI (D - 1)).toNatClampNeg = D - 1 := nI_clamp (by omega)
    rw [er] at h
    rw [hp1]
    refine br_f (by decide) ?_
    rw [es, ec]
    refine ⟨vp_in_nI (by omega) (by omega), nm_e (br_t rfl ?_)⟩
    refine xw_t1 _ k _ _ _ ?_ (hT _ (by omega)) h
    rcases hg with z | z | z | z | z | z <;> simp [z]
  · have hp2 := (rf_pp2 hg).1
    have er : rf_rr k sT D = sT (D - 1) := by
      unfold rf_rr
      rw [if_neg (by omega)]
    have el : rf_lt k sT D = sT (D - 2) := by
      unfold rf_lt
      rw [if_pos hp2]
    have es : nI D - 1 = nI (D - 1) := pk_sub (b := 1) (by omega)
    have es2 : nI D - 2 = nI (D - 2) := pk_sub (b := 2) (by omega)
    have ec : (nI (D - 1)).toNatClampNeg = D - 1 := nI_clamp (by omega)
    have ec2 : (nI (D - 2)).toNatClampNeg = D - 2 := nI_clamp (by omega)
    rw [er, el] at h
    rw [hp2]
    refine br_f (by decide) ?_
    rw [es, es2, ec, ec2]
    exact ⟨vp_in_nI (by omega) (by omega), nm_e (br_f (by decide) ⟨vp_in_nI (by omega) (by omega), nm_e (xw_t2 _ k _ _ _ hg (hT _ (by omega)) (hT _ (by omega)) h)⟩)⟩
  · have hp1 : rf_pp k = 1 := by rcases hg with rfl | rfl <;> decide +kernel
    have er : rf_rr k sT D = sT (D - 1) := by
      unfold rf_rr
      rw [if_neg (by omega)]
    have es : nI D - 1 = nI (D - 1) := pk_sub (b := 1) (by omega)
    have ec : (nI (D - 1)).toNatClampNeg = D - 1 := nI_clamp (by omega)
    rw [er] at h
    rw [hp1]
    refine br_f (by decide) ?_
    rw [es, ec]
    refine ⟨vp_in_nI (by omega) (by omega), nm_e (br_t rfl ?_)⟩
    refine xw_t1 _ k _ _ _ ?_ (hT _ (by omega)) h
    rcases hg with z | z <;> simp [z]
/-- the mask of the new entry -/
def rf_mk (k a : Int32) (M : Nat → Int32) (D : Nat) : Int32 :=
  if k = 2 then (1 : Int32) <<< (a &&& 31) else if k = 21 ∨ k = 22 then M (D - 1) &&& (((1 : Int32) <<< (a &&& 31)) ^^^ (-1))
  else if rf_pp k = 0 then 0 else if rf_pp k = 1 then M (D - 1) else M (D - 1) ||| M (D - 2)
theorem xw_mk {D : Nat} (hD : D ≤ 32) (post : Int32 → Prop) (k a : Int32) (hk : rf_kd k) (hp : rf_pp k ≤ D) (h : post (rf_mk k a sM D)) : wpX_resultMask post (xn, xr, xt, nI D, xs, xp, xe, ar, rq, ex, tk, ta, sp, sT, sM, hd, pR, pB, vl) k a (nI (rf_pp k)) := by
  unfold rf_mk at h
  have es2 : 2 ≤ D → nI D - 2 = nI (D - 2) := fun z => pk_sub (b := 2) z
  rcases rf_kg hk with hg | hg | hg | hg
  · have hp0 := rf_pp0 hg
    rw [hp0] at h ⊢
    refine br_t nI_0 ?_
    rcases hg with rfl | rfl | rfl | rfl
    · exact br_f (by decide) h
    · exact br_t rfl h
    · exact br_f (by decide) h
    · exact br_f (by decide) h
  · have hp1 := rf_pp1 hg
    have h2 : ¬ k = 2 := by rcases hg with rfl | rfl | rfl | rfl | rfl | rfl <;> decide
    have es : nI D - 1 = nI (D - 1) := pk_sub (b := 1) (by omega)
    rw [if_neg h2, if_neg (fun z => z.elim hp1.2.1 hp1.2.2), if_neg (by omega), if_pos hp1.1] at h
    rw [hp1.1]
    refine br_f (by decide) ?_
    rw [es, nI_clamp (show D - 1 < 2 ^ 31 by omega)]
    refine ⟨vp_in_nI (by omega) (by omega), nm_e (br_f (by decide) (xw_iq _ k ?_))⟩
    rw [if_neg (fun z => z.elim hp1.2.1 hp1.2.2)]
    exact br_t rfl h
  · have hp2 := rf_pp2 hg
    have h2 : ¬ k = 2 := by rcases hg with rfl | rfl | rfl | rfl | rfl | rfl | rfl | rfl | rfl | rfl <;> decide
    have es : nI D - 1 = nI (D - 1) := pk_sub (b := 1) (by omega)
    rw [if_neg h2, if_neg (fun z => z.elim hp2.2.1 hp2.2.2), if_neg (by omega), if_neg (by omega)] at h
    rw [hp2.1]
    refine br_f (by decide) ?_
    rw [es, es2 (by omega), nI_clamp (show D - 1 < 2 ^ 31 by omega), nI_clamp (show D - 2 < 2 ^ 31 by omega)]
    refine ⟨vp_in_nI (by omega) (by omega), nm_e (br_t rfl ⟨vp_in_nI (by omega) (by omega), nm_e (xw_iq _ k ?_)⟩)⟩
    rw [if_neg (fun z => z.elim hp2.2.1 hp2.2.2)]
    exact br_t rfl h
  · have hp1 : rf_pp k = 1 := by rcases hg with rfl | rfl <;> decide +kernel
    have h2 : ¬ k = 2 := by rcases hg with rfl | rfl <;> decide
    have es : nI D - 1 = nI (D - 1) := pk_sub (b := 1) (by omega)
    rw [if_neg h2, if_pos hg] at h
    rw [hp1]
    refine br_f (by decide) ?_
    rw [es, nI_clamp (show D - 1 < 2 ^ 31 by omega)]
    refine ⟨vp_in_nI (by omega) (by omega), nm_e (br_f (by decide) (xw_iq _ k ?_))⟩
    rw [if_pos hg]
    exact br_f (by decide) h
theorem xw_so {D : Nat} (hD : D ≤ 32) (post : Int32 → Prop) (k : Int32) (hp : rf_pp k ≤ D) (h : post (rf_sp k (rf_lt k sT D) (rf_rr k sT D))) : wpX_stepOf post (xn, xr, xt, nI D, xs, xp, xe, ar, rq, ex, tk, ta, sp, sT, sM, hd, pR, pB, vl) k := by
  by_cases h8 : k = 8
  · subst h8
    have hp2 : rf_pp 8 = 2 := by decide +kernel
    have er : rf_rr 8 sT D = sT (D - 1) := by
      unfold rf_rr
      rw [if_neg (by omega)]
    have el : rf_lt 8 sT D = sT (D - 2) := by
      unfold rf_lt
      rw [if_pos hp2]
    have es : nI D - 1 = nI (D - 1) := pk_sub (b := 1) (by omega)
    have es2 : nI D - 2 = nI (D - 2) := pk_sub (b := 2) (by omega)
    unfold rf_sp at h
    rw [er, el, if_pos rfl] at h
    refine br_t rfl ?_
    rw [es, es2, nI_clamp (show D - 1 < 2 ^ 31 by omega), nI_clamp (show D - 2 < 2 ^ 31 by omega)]
    refine ⟨vp_in_nI (by omega) (by omega), ?_⟩
    by_cases hl : sT (D - 2) = 1
    · rw [if_pos hl] at h
      exact br_t hl h
    · rw [if_neg hl] at h
      refine br_f hl ⟨vp_in_nI (by omega) (by omega), ?_⟩
      by_cases hr : sT (D - 1) = 1
      · rw [if_pos hr] at h
        exact br_t hr h
      · rw [if_neg hr] at h
        exact br_f hr h
  · rw [rf_sp0 h8] at h
    exact br_f h8 h
theorem yw_rt (post : Int32 → Prop) (k lt rt a : Int32) (hk : rf_kd k) (ha : k = 1 → ∃ q : Nat, q < 4 ∧ a = nI q) (hl : lt = 0 ∨ lt = 1 ∨ lt = 2) (hr : rt = 0 ∨ rt = 1 ∨ rt = 2) (h : post (rf_rt k lt rt (ar a.toNatClampNeg))) : wpY_resultType post (xn, xr, xt, xd, xs, ar, md, tk, ta, tt, sT, sM, ns, cu, vs, eT, tm) k lt rt a := by
  rcases rf_kg hk with hg | hg | hg | hg
  · rcases hg with rfl | rfl | rfl | rfl
    · obtain ⟨q, hq, rfl⟩ := ha rfl
      have e3 : nI q &&& 3 = nI q := by
        rw [pk_andN (by omega) 2 (by decide), Nat.mod_eq_of_lt (by omega)]
      refine br_t rfl ?_
      rw [e3]
      exact ⟨vp_in_nI (by omega) (by omega), h⟩
    · exact br_f (by decide) (br_t rfl h)
    · exact br_f (by decide) (br_f (by decide) (br_t rfl h))
    · exact br_f (by decide) (br_f (by decide) (br_f (by decide) (br_t rfl h)))
  · rcases hg with rfl | rfl | rfl | rfl | rfl | rfl <;> rcases hr with rfl | rfl | rfl <;> unfold wpY_resultType wY_resultType_60 wY_resultType_196 wY_resultType_208 wY_resultType_136 wY_resultType_159 wY_resultType_86 <;> repeat (first | exact h | refine br_t (by decide) ?_ | refine br_f (by decide) ?_)
  · rcases hg with rfl | rfl | rfl | rfl | rfl | rfl | rfl | rfl | rfl | rfl <;> rcases hl with rfl | rfl | rfl <;> rcases hr with rfl | rfl | rfl <;> unfold wpY_resultType wY_resultType_60 wY_resultType_196 wY_resultType_208 wY_resultType_136 wY_resultType_159 wY_resultType_86 <;> repeat (first | exact h | refine br_t (by decide) ?_ | refine br_f (by decide) ?_)
  · rcases hg with rfl | rfl <;> rcases hr with rfl | rfl | rfl <;> unfold wpY_resultType wY_resultType_60 wY_resultType_196 wY_resultType_208 wY_resultType_136 wY_resultType_159 wY_resultType_86 <;> repeat (first | exact h | refine br_t (by decide) ?_ | refine br_f (by decide) ?_)
theorem rf_rtc {k lt rt ra rb : Int32} (h : ¬ k = 1) : rf_rt k lt rt ra = rf_rt k lt rt rb := by
  unfold rf_rt
  rw [if_neg h, if_neg h]
end
end
section
/-! the relation; construction, declare, bounds, getters -/
def rl_I (N R T : Nat) (xs : Int32) (ar md rq ex tk ta tt sp sT hd ns : Nat → Int32) : Prop :=
  1 ≤ N ∧ N ≤ 4 ∧ 1 ≤ R ∧ R ≤ 4 ∧ T ≤ 32 ∧ rf_bd N ar md rq ex ∧ rf_WF R ar tk ta tt sp T
  ∧ (∀ s, s < rf_hg tk T → sT s = rf_ty tk tt T s ∧ (sT s = 0 ∨ sT s = 1 ∨ sT s = 2)) ∧ (xs = 1 → ∀ q, q < R → hd q = ns q)
def i_Rel (_ : Nat) (u : SX) (v : SY) : Prop := ∃ (N R T : Nat) (xs xp xe : Int32) (ar rq ex tk ta sp sT sM hd pR pB vl md tt ns cu vs eT tm : Nat → Int32),
  u = (nI N, nI R, nI T, nI (rf_hg tk T), xs, xp, xe, ar, rq, ex, tk, ta, sp, sT, sM, hd, pR, pB, vl) ∧ v = (nI N, nI R, nI T, nI (rf_hg tk T), xs, ar, md, tk, ta, tt, sT, sM, ns, cu, vs, eT, tm) ∧ rl_I N R T xs ar md rq ex tk ta tt sp sT hd ns
theorem rl_mk {k N R T : Nat} {xs xp xe : Int32} {ar rq ex tk ta sp sT sM hd pR pB vl md tt ns cu vs eT tm : Nat → Int32} (I : rl_I N R T xs ar md rq ex tk ta tt sp sT hd ns) : i_Rel k (nI N, nI R, nI T, nI (rf_hg tk T), xs, xp, xe, ar, rq, ex, tk, ta, sp, sT, sM, hd, pR, pB, vl) (nI N, nI R, nI T, nI (rf_hg tk T), xs, ar, md, tk, ta, tt, sT, sM, ns, cu, vs, eT, tm) :=
  ⟨N, R, T, xs, xp, xe, ar, rq, ex, tk, ta, sp, sT, sM, hd, pR, pB, vl, md, tt, ns, cu, vs, eT, tm, rfl, rfl, I⟩
theorem i_up {k : Nat} {u : SX} {v : SY} (h : i_Rel k u v) : i_Rel (k + 5) u v := h
theorem rl_cp (p : Int32) : ∃ N : Nat, 1 ≤ N ∧ N ≤ 4 ∧ (∀ post : Int32 → Prop, post (nI N) → wpX_clamp post p 4) ∧ (∀ A : Int32 → Prop, A (nI N) → ((1 ≤ p → (((p ≤ 4 → A p) ∧ (¬ p ≤ 4 → A 4)))) ∧ (¬ 1 ≤ p → A 1))) := by
  by_cases h1 : 1 ≤ p
  · by_cases h4 : p ≤ 4
    · obtain ⟨j, hj, rfl⟩ := nI_of2 (x := p) (M := 4) (n := 4) (by decide) (Int32.not_lt.mpr (Int32.le_trans (by decide) h1)) h4
      have hj1 : 1 ≤ j := (nI_leI (a := 1) (b := j) (by omega) (by omega)).mp h1
      exact ⟨j, hj1, hj, fun post hp => br_t h1 (br_t h4 hp), fun A hp => br_t h1 (br_t h4 hp)⟩
    · exact ⟨4, by omega, by omega, fun post hp => br_t h1 (br_f h4 hp), fun A hp => br_t h1 (br_f h4 hp)⟩
  · exact ⟨1, by omega, by omega, fun post hp => br_f h1 hp, fun A hp => br_f h1 hp⟩
def rl_a1 : Nat → Int32 := rf_it (fun i (f : Nat → Int32) => upd f i 1) (fun _ => 0) 4
theorem rl_a1v : ∀ q, q < 4 → rl_a1 q = 1 := by
  intro q hq
  have hc : q = 0 ∨ q = 1 ∨ q = 2 ∨ q = 3 := by omega
  rcases hc with rfl | rfl | rfl | rfl <;> rfl
theorem rl_I0 {N R : Nat} (h1 : 1 ≤ N) (h2 : N ≤ 4) (h3 : 1 ≤ R) (h4 : R ≤ 4) : rl_I N R 0 0 rl_a1 (fun _ => 0) (fun _ => 0) (fun _ => 0) (fun _ => 0) (fun _ => 0) (fun _ => 0) (fun _ => 0) (fun _ => 0) (fun _ => 0) (fun _ => 0) := by
  refine ⟨h1, h2, h3, h4, by omega, ?_, fun i hi => absurd hi (Nat.not_lt_zero i), fun s hs => absurd hs (Nat.not_lt_zero s), fun z => absurd z (by decide)⟩
  intro q hq
  refine ⟨Or.inl (rl_a1v q hq), fun i hi => ⟨?_, ?_, fun _ => Or.inl rfl⟩⟩
  · show bt 0 i = (rf_vt N (rl_a1 q) i && decide ((0 : Int32) = 1))
    rw [b_0, decide_eq_false (show ¬ (0 : Int32) = 1 by decide), Bool.and_false]
  · show bt 0 i = (rf_vt N (rl_a1 q) i && decide ((0 : Int32) = 2))
    rw [b_0, decide_eq_false (show ¬ (0 : Int32) = 2 by decide), Bool.and_false]
theorem i_vc0 (k0 : Int32) (k1 : Int32) : wpX_init (fun u => wpY_init (fun v => i_Rel 2 u v) k0 k1) k0 k1 := by
  obtain ⟨N, h1, h2, hX, hY⟩ := rl_cp k0
  obtain ⟨R, h3, h4, hX', hY'⟩ := rl_cp k1
  unfold wpX_init
  refine hX _ (hX' _ ?_)
  refine rf_lp (fun n i (f : Nat → Int32) => wX_init_142 _ (nI N) (nI R) 0 0 0 0 1 n (nI i) f (fun _ => 0) (fun _ => 0) (fun _ => 0) (fun _ => 0) (fun _ => 0) (fun _ => 0) (fun _ => 0) (fun _ => 0) (fun _ => 0) (fun _ => 0) (fun _ => 0)) (fun i f => upd f i 1) 4 (fun _ => 0) (fun n => br_t (by decide) ?_) (fun n i f hi hn => ?_)
  · refine hY (fun z => wY_init_118 _ k1 z 0 0 0 0 0 (fun _ => 0) (fun _ => 0) (fun _ => 0) (fun _ => 0) (fun _ => 0) (fun _ => 0) (fun _ => 0) (fun _ => 0) (fun _ => 0) (fun _ => 0) (fun _ => 0) (fun _ => 0)) ?_
    refine hY' (fun z => ∃ n146, wY_init_146 _ (nI N) z 0 0 0 n146 0 (fun _ => 0) (fun _ => 0) (fun _ => 0) (fun _ => 0) (fun _ => 0) (fun _ => 0) (fun _ => 0) (fun _ => 0) (fun _ => 0) (fun _ => 0) (fun _ => 0) (fun _ => 0)) ?_
    refine rf_lp (fun n i (f : Nat → Int32) => wY_init_146 _ (nI N) (nI R) 0 0 0 n (nI i) f (fun _ => 0) (fun _ => 0) (fun _ => 0) (fun _ => 0) (fun _ => 0) (fun _ => 0) (fun _ => 0) (fun _ => 0) (fun _ => 0) (fun _ => 0) (fun _ => 0)) (fun i f => upd f i 1) 4 (fun _ => 0) (fun n => br_t (by decide) ?_) (fun n i f hi hn => ?_)
    · exact rl_mk (T := 0) (rl_I0 h1 h2 h3 h4)
    · have hn : wY_init_146 _ (nI N) (nI R) 0 0 0 n (nI (i + 1)) (upd f i 1) (fun _ => 0) (fun _ => 0) (fun _ => 0) (fun _ => 0) (fun _ => 0) (fun _ => 0) (fun _ => 0) (fun _ => 0) (fun _ => 0) (fun _ => 0) (fun _ => 0) := hn
      refine br_f (nI_ge (b := 4) hi (by decide)) ⟨vp_in_nI (by omega) (by omega), ?_⟩
      rw [nI_clamp (show i < 2 ^ 31 by omega)]
      exact nm_e (nm_r (nI_1 i) hn)
  · have hn : wX_init_142 _ (nI N) (nI R) 0 0 0 0 1 n (nI (i + 1)) (upd f i 1) (fun _ => 0) (fun _ => 0) (fun _ => 0) (fun _ => 0) (fun _ => 0) (fun _ => 0) (fun _ => 0) (fun _ => 0) (fun _ => 0) (fun _ => 0) (fun _ => 0) := hn
    refine br_f (nI_ge (b := 4) hi (by decide)) ⟨vp_in_nI (by omega) (by omega), ?_⟩
    rw [nI_clamp (show i < 2 ^ 31 by omega)]
    exact nm_e (nm_r (nI_1 i) hn)
theorem i_vc_atoms {k : Nat} {u : SX} {v : SY} (I : i_Rel k u v) (hk : k + 5 ≤ 2562) : wpX_atoms (fun r => wpY_atoms (fun r' => r' = r ∧ i_Rel (k + 5) u v) v) u := by
  have I' := I
  obtain ⟨N, R, T, xs, xp, xe, ar, rq, ex, tk, ta, sp, sT, sM, hd, pR, pB, vl, md, tt, ns, cu, vs, eT, tm, rfl, rfl, I⟩ := I
  exact ⟨rfl, I'⟩
theorem i_vc_tokenCount {k : Nat} {u : SX} {v : SY} (I : i_Rel k u v) (hk : k + 5 ≤ 2562) : wpX_tokenCount (fun r => wpY_tokenCount (fun r' => r' = r ∧ i_Rel (k + 5) u v) v) u := by
  have I' := I
  obtain ⟨N, R, T, xs, xp, xe, ar, rq, ex, tk, ta, sp, sT, sM, hd, pR, pB, vl, md, tt, ns, cu, vs, eT, tm, rfl, rfl, I⟩ := I
  exact ⟨rfl, I'⟩
theorem i_vc_depth {k : Nat} {u : SX} {v : SY} (I : i_Rel k u v) (hk : k + 5 ≤ 2562) : wpX_depth (fun r => wpY_depth (fun r' => r' = r ∧ i_Rel (k + 5) u v) v) u := by
  have I' := I
  obtain ⟨N, R, T, xs, xp, xe, ar, rq, ex, tk, ta, sp, sT, sM, hd, pR, pB, vl, md, tt, ns, cu, vs, eT, tm, rfl, rfl, I⟩ := I
  exact ⟨rfl, I'⟩
theorem i_vc_status {k : Nat} {u : SX} {v : SY} (I : i_Rel k u v) (hk : k + 5 ≤ 2562) : wpX_status (fun r => wpY_status (fun r' => r' = r ∧ i_Rel (k + 5) u v) v) u := by
  have I' := I
  obtain ⟨N, R, T, xs, xp, xe, ar, rq, ex, tk, ta, sp, sT, sM, hd, pR, pB, vl, md, tt, ns, cu, vs, eT, tm, rfl, rfl, I⟩ := I
  exact ⟨rfl, I'⟩
theorem rl_in {D : Nat} (hD : D ≤ 32) {x : Int32} (h0 : ¬ x < 0) (h : x < nI D) : vp_in x 32 := by
  obtain ⟨j, hj, rfl⟩ := nI_of h0
  rw [nI_ltI hj (by omega)] at h
  exact vp_in_nI (by omega) (by omega)
theorem i_vc_token {k : Nat} {u : SX} {v : SY} (I : i_Rel k u v) (hk : k + 5 ≤ 2562) (v1 : Int32) : wpX_token (fun r => wpY_token (fun r' => r' = r ∧ i_Rel (k + 5) u v) v v1) u v1 := by
  have I' := I
  obtain ⟨N, R, T, xs, xp, xe, ar, rq, ex, tk, ta, sp, sT, sM, hd, pR, pB, vl, md, tt, ns, cu, vs, eT, tm, rfl, rfl, I⟩ := I
  have hT := I.2.2.2.2.1
  by_cases h0 : v1 < 0
  · exact br_t h0 (br_t h0 ⟨rfl, I'⟩)
  · by_cases h1 : v1 < nI T
    · have vi := rl_in hT h0 h1
      exact br_f h0 (br_t h1 ⟨vi, vi, br_f h0 (br_t h1 ⟨vi, vi, rfl, I'⟩)⟩)
    · exact br_f h0 (br_f h1 (br_f h0 (br_f h1 ⟨rfl, I'⟩)))
theorem i_vc_stackEntry {k : Nat} {u : SX} {v : SY} (I : i_Rel k u v) (hk : k + 5 ≤ 2562) (v1 : Int32) : wpX_stackEntry (fun r => wpY_stackEntry (fun r' => r' = r ∧ i_Rel (k + 5) u v) v v1) u v1 := by
  have I' := I
  obtain ⟨N, R, T, xs, xp, xe, ar, rq, ex, tk, ta, sp, sT, sM, hd, pR, pB, vl, md, tt, ns, cu, vs, eT, tm, rfl, rfl, I⟩ := I
  have hT := I.2.2.2.2.1
  have hD := rf_hgi tk T
  by_cases h0 : v1 < 0
  · exact br_t h0 (br_t h0 ⟨rfl, I'⟩)
  · by_cases h1 : v1 < nI (rf_hg tk T)
    · have vi := rl_in (show rf_hg tk T ≤ 32 by omega) h0 h1
      exact br_f h0 (br_t h1 ⟨vi, vi, br_f h0 (br_t h1 ⟨vi, vi, rfl, I'⟩)⟩)
    · exact br_f h0 (br_f h1 (br_f h0 (br_f h1 ⟨rfl, I'⟩)))
theorem i_vc_clearFormula {k : Nat} {u : SX} {v : SY} (I : i_Rel k u v) (hk : k + 5 ≤ 2562) : wpX_clearFormula (fun u' => wpY_clearFormula (fun v' => i_Rel (k + 5) u' v') v) u := by
  obtain ⟨N, R, T, xs, xp, xe, ar, rq, ex, tk, ta, sp, sT, sM, hd, pR, pB, vl, md, tt, ns, cu, vs, eT, tm, rfl, rfl, I⟩ := I
  obtain ⟨h1, h2, h3, h4, _, h6, _, _, _⟩ := I
  exact rl_mk (k := k + 5) (T := 0) ⟨h1, h2, h3, h4, by omega, h6, fun i hi => absurd hi (Nat.not_lt_zero i), fun s hs => absurd hs (Nat.not_lt_zero s), fun z => absurd z (by decide)⟩
theorem i_vc_arityOf {k : Nat} {u : SX} {v : SY} (I : i_Rel k u v) (hk : k + 5 ≤ 2562) (v1 : Int32) : wpX_arityOf (fun r => wpY_arityOf (fun r' => r' = r ∧ i_Rel (k + 5) u v) v v1) u v1 := by
  have I' := I
  obtain ⟨N, R, T, xs, xp, xe, ar, rq, ex, tk, ta, sp, sT, sM, hd, pR, pB, vl, md, tt, ns, cu, vs, eT, tm, rfl, rfl, I⟩ := I
  obtain ⟨_, _, _, h4, _⟩ := I
  unfold wpX_arityOf
  dsimp only
  rcases pk_ix v1 (n := R) (by omega) with h | h | ⟨j, hj, rfl⟩
  · exact xw_irn _ _ (Or.inl h) (br_t rfl (br_t h ⟨rfl, I'⟩))
  · exact xw_irn _ _ (Or.inr h) (br_t rfl (br_c (fun _ => ⟨rfl, I'⟩) (fun _ => br_f (Int32.not_lt.mpr h) ⟨rfl, I'⟩)))
  · have vi : vp_in (nI j) 4 := vp_in_nI (by omega) (by omega)
    exact xw_irt _ h4 hj (br_f (by decide) ⟨vi, br_f (nI_pos (by omega)) (br_t (nI_lt hj (by omega)) ⟨vi, rfl, I'⟩)⟩)
theorem i_vc_freeCount {k : Nat} {u : SX} {v : SY} (I : i_Rel k u v) (hk : k + 5 ≤ 2562) : wpX_freeCount (fun r => wpY_freeCount (fun r' => r' = r ∧ i_Rel (k + 5) u v) v) u := by
  have I' := I
  obtain ⟨N, R, T, xs, xp, xe, ar, rq, ex, tk, ta, sp, sT, sM, hd, pR, pB, vl, md, tt, ns, cu, vs, eT, tm, rfl, rfl, I⟩ := I
  obtain ⟨_, h2, _, h4, _, h6, _⟩ := I
  exact xw_fc h2 h4 h6 _ (yw_fc h2 h4 _ ⟨rfl, I'⟩)
/-! declare -/
theorem rf_tclt {N i : Nat} {r : Int32} (hN : N ≤ 4) (h : rf_vt N r i = true) : rf_tc r i < 16 := by
  unfold rf_tc
  by_cases hr : r = 1
  · rw [if_pos hr]
    have := (rf_vt1 hr).mp h
    omega
  · rw [if_neg hr]
    exact ((rf_vt2 hr).mp h).1
theorem rf_andc {a : Bool} {p q : Prop} [Decidable p] [Decidable q] (h : a = true → (p ↔ q)) : (a && decide p) = (a && decide q) := by
  cases a with
  | false => rfl
  | true =>
    rw [Bool.true_and, Bool.true_and]
    exact Bool.eq_iff_iff.mpr (by rw [decide_eq_true_eq, decide_eq_true_eq]; exact h rfl)
theorem rl_dc {N j : Nat} (hN : N ≤ 4) {ar md rq ex : Nat → Int32} (hb : rf_bd N ar md rq ex) {r : Int32} (hr : r = 1 ∨ r = 2) : rf_bd N (upd ar j r) (rf_bk md (j * 16) 16 (fun _ => 0)) (upd rq j 0) (upd ex j 0) := by
  intro q hq
  by_cases e : q = j
  · subst e
    rw [pk_us, pk_us, pk_us]
    refine ⟨hr, fun i hi => ?_⟩
    have hz : rf_vt N r i = true → rf_bk md (q * 16) 16 (fun _ => 0) (q * 16 + rf_tc r i) = 0 := fun hv => rf_bki (rf_tclt hN hv)
    rw [b_0]
    refine ⟨?_, ?_, fun hv => Or.inl (hz hv)⟩
    · cases hv : rf_vt N r i with
      | false => rfl
      | true =>
        rw [hz hv]
        decide +kernel
    · cases hv : rf_vt N r i with
      | false => rfl
      | true =>
        rw [hz hv]
        decide +kernel
  · rw [pk_un e, pk_un e, pk_un e]
    obtain ⟨h0, h⟩ := hb q hq
    refine ⟨h0, fun i hi => ?_⟩
    obtain ⟨a, b, c⟩ := h i hi
    have hz : rf_vt N (ar q) i = true → rf_bk md (j * 16) 16 (fun _ => 0) (q * 16 + rf_tc (ar q) i) = md (q * 16 + rf_tc (ar q) i) := by
      intro hv
      have := rf_tclt hN hv
      exact rf_bko (by omega)
    refine ⟨?_, ?_, fun hv => by rw [hz hv]; exact c hv⟩
    · rw [a]
      exact rf_andc (fun hv => by rw [hz hv])
    · rw [b]
      exact rf_andc (fun hv => by rw [hz hv])
theorem i_vc_declare {k : Nat} {u : SX} {v : SY} (I : i_Rel k u v) (hk : k + 5 ≤ 2562) (v1 : Int32) (v2 : Int32) : wpX_declare (fun r u' => wpY_declare (fun r' v' => r' = r ∧ i_Rel (k + 5) u' v') v v1 v2) u v1 v2 := by
  have I' : i_Rel (k + 5) u v := I
  obtain ⟨N, R, T, xs, xp, xe, ar, rq, ex, tk, ta, sp, sT, sM, hd, pR, pB, vl, md, tt, ns, cu, vs, eT, tm, rfl, rfl, I⟩ := I
  obtain ⟨h1, h2, h3, h4, h5, h6, h7, h8, h9⟩ := I
  unfold wpX_declare
  dsimp only
  rcases pk_ix v1 (n := R) (by omega) with h | h | ⟨j, hj, rfl⟩
  · exact xw_irn _ _ (Or.inl h) (br_t rfl (br_t h ⟨rfl, I'⟩))
  · exact xw_irn _ _ (Or.inr h) (br_t rfl (br_c (fun _ => ⟨rfl, I'⟩) (fun _ => br_f (Int32.not_lt.mpr h) ⟨rfl, I'⟩)))
  · have vi : vp_in (nI j) 4 := vp_in_nI (by omega) (by omega)
    have j0 : ¬ nI j < 0 := nI_pos (by omega)
    have j1 : nI j < nI R := nI_lt hj (by omega)
    have ec : (nI j).toNatClampNeg = j := nI_clamp (by omega)
    refine xw_irt _ h4 hj (br_f (by decide) ?_)
    -- both sides, the arity being good
    have go : v2 = 1 ∨ v2 = 2 → wX_declare_22 (fun r u' => wpY_declare (fun r' v' => r' = r ∧ i_Rel (k + 5) u' v') (nI N, nI R, nI T, nI (rf_hg tk T), xs, ar, md, tk, ta, tt, sT, sM, ns, cu, vs, eT, tm) (nI j) v2) (nI j) v2 (nI N) (nI R) (nI T) (nI (rf_hg tk T)) xs xp xe ar rq ex tk ta sp sT sM hd pR pB vl := by
      intro hr
      have goY : ∀ post : Int32 → SY → Prop, wY_declare_26 post (nI j) v2 (nI N) (nI R) (nI T) (nI (rf_hg tk T)) xs ar md tk ta tt sT sM ns cu vs eT tm → wpY_declare post (nI N, nI R, nI T, nI (rf_hg tk T), xs, ar, md, tk, ta, tt, sT, sM, ns, cu, vs, eT, tm) (nI j) v2 := by
        intro post hp
        refine br_f j0 (br_t j1 ?_)
        rcases hr with hr | hr
        · exact br_t hr hp
        · exact br_f (by rw [hr]; decide) (br_t hr hp)
      unfold wX_declare_22
      rw [ec]
      by_cases hT : T = 0
      · subst hT
        refine br_t (by decide) ⟨vi, nm_e ⟨vi, nm_e ⟨vi, nm_e (goY _ (br_t (by decide) ⟨vi, ?_⟩))⟩⟩⟩
        rw [ec]
        refine nm_e ?_
        refine loop_0 (fun n t (m : Nat → Int32) => wY_declare_45 _ (nI j) (nI N) (nI R) (nI 0) (nI (rf_hg tk 0)) xs n (nI t) (upd ar j v2) m tk ta tt sT sM ns cu vs eT tm) (fun t m => m = rf_bk md (j * 16) t (fun _ => 0)) 16 md (rf_bk0 _ _ _).symm (fun n m hm => br_t (by decide) ?_) (fun n t m ht hm kk => ?_)
        · rw [hm]
          exact ⟨rfl, rl_mk (T := 0) ⟨h1, h2, h3, h4, by omega, rl_dc h2 h6 hr, fun i hi => absurd hi (Nat.not_lt_zero i), fun s hs => absurd hs (Nat.not_lt_zero s), fun z => absurd z (by decide)⟩⟩
        · obtain ⟨e1, e2, e3⟩ := yw_ix (j := j) (t := t) (by omega) ht
          refine br_f (nI_ge (b := 16) ht (by decide)) ?_
          rw [e1, e3, hm]
          exact ⟨e2, nm_r (rf_bks md (j * 16) t (fun _ => 0)) (nm_r (nI_1 t) (kk _ rfl))⟩
      · have hTn : ¬ nI T ≤ 0 := nI_nle (by omega) (by omega)
        exact br_f hTn (goY _ (br_f hTn ⟨rfl, I'⟩))
    by_cases r1 : v2 = 1
    · exact br_t r1 (go (Or.inl r1))
    · refine br_f r1 ?_
      by_cases r2 : v2 = 2
      · exact br_t r2 (go (Or.inr r2))
      · exact br_f r2 (br_f j0 (br_t j1 (br_f r1 (br_f r2 ⟨rfl, I'⟩))))
end
section
/-! bound, boundOf, has, instanceSize -/
theorem rf_ab (x : Int32) (i : Nat) (hi : i < 32) : x &&& ((1 : Int32) <<< (nI i &&& 31)) = 0 ↔ ¬ bt x i = true := by
  rw [rf_z]
  constructor
  · intro h hb
    apply h i hi
    rw [b_and, Bool.and_eq_true]
    exact ⟨hb, (rf_sb i hi i hi).mpr rfl⟩
  · intro h j hj hb
    rw [b_and, Bool.and_eq_true] at hb
    have e := (rf_sb i hi j hj).mp hb.2
    subst e
    exact h hb.1
theorem rf_bn0 : ∀ i, i < 32 → ¬ (1 : Int32) <<< (nI i &&& 31) = 0 := by decide +kernel
theorem rf_sbb (i : Nat) (hi : i < 32) (b : Nat) (hb : b < 32) : bt ((1 : Int32) <<< (nI i &&& 31)) b = decide (b = i) := Bool.eq_iff_iff.mpr (by rw [rf_sb i hi b hb, decide_eq_true_eq])
theorem rf_clr (x : Int32) (i : Nat) (hi : i < 32) (b : Nat) (hb : b < 32) : bt (x &&& (((1 : Int32) <<< (nI i &&& 31)) ^^^ (-1))) b = (bt x b && !decide (b = i)) := by
  rw [b_and, b_xor, b_m1 b hb, rf_sbb i hi b hb, Bool.xor_true]
theorem rf_set (x : Int32) (i : Nat) (hi : i < 32) (b : Nat) (hb : b < 32) : bt ((x &&& (((1 : Int32) <<< (nI i &&& 31)) ^^^ (-1))) ||| ((1 : Int32) <<< (nI i &&& 31))) b = (bt x b || decide (b = i)) := by
  rw [b_or, rf_clr x i hi b hb, rf_sbb i hi b hb]
  cases bt x b <;> cases decide (b = i) <;> rfl
theorem rf_tcinj {r : Int32} {a b : Nat} (h : rf_tc r a = rf_tc r b) : a = b := by
  unfold rf_tc at h
  by_cases hr : r = 1
  · rw [if_pos hr, if_pos hr] at h
    omega
  · rw [if_neg hr, if_neg hr] at h
    exact h
theorem rl_bu {N j i : Nat} {m : Int32} (hN : N ≤ 4) (hj : j < 4) {ar md rq ex rq' ex' : Nat → Int32} (hb : rf_bd N ar md rq ex) (hv : rf_vt N (ar j) i = true) (hm : m = 0 ∨ m = 1 ∨ m = 2)
    (h1 : ∀ q, ¬ q = j → rq' q = rq q) (h2 : ∀ q, ¬ q = j → ex' q = ex q)
    (h3 : ∀ b, b < 32 → bt (rq' j) b = if b = i then decide (m = 1) else bt (rq j) b) (h4 : ∀ b, b < 32 → bt (ex' j) b = if b = i then decide (m = 2) else bt (ex j) b) : rf_bd N ar (upd md (j * 16 + rf_tc (ar j) i) m) rq' ex' := by
  intro q hq
  obtain ⟨g0, g⟩ := hb q hq
  refine ⟨g0, fun b hb => ?_⟩
  obtain ⟨a1, a2, a3⟩ := g b hb
  have ti := rf_tclt hN hv
  by_cases e : q = j
  · subst e
    rw [h3 b hb, h4 b hb]
    by_cases eb : b = i
    · subst eb
      rw [if_pos rfl, if_pos rfl, pk_us, hv, Bool.true_and, Bool.true_and]
      exact ⟨rfl, rfl, fun _ => hm⟩
    · have ne : ¬ q * 16 + rf_tc (ar q) b = q * 16 + rf_tc (ar q) i := fun z => eb (rf_tcinj (r := ar q) (by omega))
      rw [if_neg eb, if_neg eb, pk_un ne]
      exact ⟨a1, a2, a3⟩
  · rw [h1 q e, h2 q e, a1, a2]
    have ne : rf_vt N (ar q) b = true → upd md (j * 16 + rf_tc (ar j) i) m (q * 16 + rf_tc (ar q) b) = md (q * 16 + rf_tc (ar q) b) := by
      intro hv2
      have := rf_tclt hN hv2
      exact pk_un (by omega)
    exact ⟨rf_andc (fun z => by rw [ne z]), rf_andc (fun z => by rw [ne z]), fun z => by rw [ne z]; exact a3 z⟩
theorem i_vc_bound {k : Nat} {u : SX} {v : SY} (I : i_Rel k u v) (hk : k + 5 ≤ 2562) (v1 : Int32) (v2 : Int32) (v3 : Int32) (v4 : Int32) : wpX_bound (fun r u' => wpY_bound (fun r' v' => r' = r ∧ i_Rel (k + 5) u' v') v v1 v2 v3 v4) u v1 v2 v3 v4 := by
  have I' : i_Rel (k + 5) u v := I
  obtain ⟨N, R, T, xs, xp, xe, ar, rq, ex, tk, ta, sp, sT, sM, hd, pR, pB, vl, md, tt, ns, cu, vs, eT, tm, rfl, rfl, I⟩ := I
  obtain ⟨h1, h2, h3, h4, h5, h6, h7, h8, h9⟩ := I
  unfold wpX_bound wpY_bound
  dsimp only
  rcases rl_tup (xt := nI T) (xd := nI (rf_hg tk T)) (xs := xs) (xp := xp) (xe := xe) (ar := ar) (rq := rq) (ex := ex) (tk := tk) (ta := ta) (sp := sp) (sT := sT) (sM := sM) (hd := hd) (pR := pR) (pB := pB) (vl := vl) (md := md) (tt := tt) (ns := ns) (cu := cu) (vs := vs) (eT := eT) (tm := tm) h2 h4 v1 v2 v3 with ⟨j, i, hj, hi, rfl, hv, hX, hY, hix, _, _⟩ | ⟨hX, hY⟩
  · refine hX _ (br_f (rf_bn0 i (by omega)) ?_)
    have vi : vp_in (nI j) 4 := vp_in_nI (by omega) (by omega)
    have ec : (nI j).toNatClampNeg = j := nI_clamp (by omega)
    have tl := rf_tclt h2 hv
    -- Y's side, once the mode is good
    have goY : ∀ (m : Nat) (post : Int32 → SY → Prop), m < 3 → v4 = nI m → post (nI (rf_cn (rf_fq N ar (upd md (j * 16 + rf_tc (ar j) i) (nI m))) (R * 16))) (nI N, nI R, nI T, nI (rf_hg tk T), 0, ar, upd md (j * 16 + rf_tc (ar j) i) (nI m), tk, ta, tt, sT, sM, ns, cu, vs, eT, tm) → wpY_tupleOk (fun r_1 => (((r_1 = 0 → (post (-1) (nI N, nI R, nI T, nI (rf_hg tk T), xs, ar, md, tk, ta, tt, sT, sM, ns, cu, vs, eT, tm))) ∧ (¬ r_1 = 0 → (((v4 < 0 → (post (-1) (nI N, nI R, nI T, nI (rf_hg tk T), xs, ar, md, tk, ta, tt, sT, sM, ns, cu, vs, eT, tm))) ∧ (¬ v4 < 0 → (((v4 ≤ 2 → (vp_in (((nI j * 16) + (v2 * 4)) + v3) 64 ∧ ∀ a_mode_23 : Nat → Int32, a_mode_23 = upd md (((nI j * 16) + (v2 * 4)) + v3).toNatClampNeg v4 → (wpY_freeCount (fun r_24 => (post r_24 (nI N, nI R, nI T, nI (rf_hg tk T), 0, ar, a_mode_23, tk, ta, tt, sT, sM, ns, cu, vs, eT, tm))) (nI N, nI R, nI T, nI (rf_hg tk T), 0, ar, a_mode_23, tk, ta, tt, sT, sM, ns, cu, vs, eT, tm)))) ∧ (¬ v4 ≤ 2 → (post (-1) (nI N, nI R, nI T, nI (rf_hg tk T), xs, ar, md, tk, ta, tt, sT, sM, ns, cu, vs, eT, tm)))))))))))) (nI N, nI R, nI T, nI (rf_hg tk T), xs, ar, md, tk, ta, tt, sT, sM, ns, cu, vs, eT, tm) (nI j) v2 v3 := by
      intro m post hm em hp
      refine hY _ (br_f (by decide) ?_)
      rw [em, hix, nI_clamp (show j * 16 + rf_tc (ar j) i < 2 ^ 31 by omega)]
      exact br_f (nI_pos (by omega)) (br_t (nI_le (b := 2) (by omega) (by decide)) ⟨vp_in_nI (by omega) (by omega), nm_e (yw_fc h2 h4 _ hp)⟩)
    have badY : ∀ post : Int32 → SY → Prop, (v4 < 0 ∨ nI 3 ≤ v4) → post (-1) (nI N, nI R, nI T, nI (rf_hg tk T), xs, ar, md, tk, ta, tt, sT, sM, ns, cu, vs, eT, tm) → wpY_tupleOk (fun r_1 => (((r_1 = 0 → (post (-1) (nI N, nI R, nI T, nI (rf_hg tk T), xs, ar, md, tk, ta, tt, sT, sM, ns, cu, vs, eT, tm))) ∧ (¬ r_1 = 0 → (((v4 < 0 → (post (-1) (nI N, nI R, nI T, nI (rf_hg tk T), xs, ar, md, tk, ta, tt, sT, sM, ns, cu, vs, eT, tm))) ∧ (¬ v4 < 0 → (((v4 ≤ 2 → (vp_in (((nI j * 16) + (v2 * 4)) + v3) 64 ∧ ∀ a_mode_23 : Nat → Int32, a_mode_23 = upd md (((nI j * 16) + (v2 * 4)) + v3).toNatClampNeg v4 → (wpY_freeCount (fun r_24 => (post r_24 (nI N, nI R, nI T, nI (rf_hg tk T), 0, ar, a_mode_23, tk, ta, tt, sT, sM, ns, cu, vs, eT, tm))) (nI N, nI R, nI T, nI (rf_hg tk T), 0, ar, a_mode_23, tk, ta, tt, sT, sM, ns, cu, vs, eT, tm)))) ∧ (¬ v4 ≤ 2 → (post (-1) (nI N, nI R, nI T, nI (rf_hg tk T), xs, ar, md, tk, ta, tt, sT, sM, ns, cu, vs, eT, tm)))))))))))) (nI N, nI R, nI T, nI (rf_hg tk T), xs, ar, md, tk, ta, tt, sT, sM, ns, cu, vs, eT, tm) (nI j) v2 v3 := by
      intro post hb hp
      refine hY _ (br_f (by decide) (br_c (fun _ => hp) (fun hn => br_f (fun z => ?_) hp)))
      have z2 := Int32.le_trans (hb.resolve_left hn) z
      exact absurd z2 (by decide)
    have nq : ∀ (f : Nat → Int32) (x : Int32) (q : Nat), ¬ q = j → upd f j x q = f q := fun f x q hq => pk_un hq
    rcases pk_ix v4 (n := 3) (by omega) with hb | hb | ⟨m, hm, em⟩
    · exact br_f (fun z => by rw [z] at hb; exact absurd hb (by decide)) (br_f (fun z => by rw [z] at hb; exact absurd hb (by decide)) (br_f (fun z => by rw [z] at hb; exact absurd hb (by decide)) (badY (fun r' v' => r' = -1 ∧ i_Rel (k + 5) _ v') (Or.inl hb) ⟨rfl, I'⟩)))
    · exact br_f (fun z => by rw [z] at hb; exact absurd hb (by decide)) (br_f (fun z => by rw [z] at hb; exact absurd hb (by decide)) (br_f (fun z => by rw [z] at hb; exact absurd hb (by decide)) (badY (fun r' v' => r' = -1 ∧ i_Rel (k + 5) _ v') (Or.inr hb) ⟨rfl, I'⟩)))
    · have hc : m = 0 ∨ m = 1 ∨ m = 2 := by omega
      have fin : ∀ rq' ex', rf_bd N ar (upd md (j * 16 + rf_tc (ar j) i) (nI m)) rq' ex' → wX_bound_98 (fun r u' => wpY_tupleOk (fun r_1 => (((r_1 = 0 → ((-1) = r ∧ i_Rel (k + 5) u' (nI N, nI R, nI T, nI (rf_hg tk T), xs, ar, md, tk, ta, tt, sT, sM, ns, cu, vs, eT, tm))) ∧ (¬ r_1 = 0 → (((v4 < 0 → ((-1) = r ∧ i_Rel (k + 5) u' (nI N, nI R, nI T, nI (rf_hg tk T), xs, ar, md, tk, ta, tt, sT, sM, ns, cu, vs, eT, tm))) ∧ (¬ v4 < 0 → (((v4 ≤ 2 → (vp_in (((nI j * 16) + (v2 * 4)) + v3) 64 ∧ ∀ a_mode_23 : Nat → Int32, a_mode_23 = upd md (((nI j * 16) + (v2 * 4)) + v3).toNatClampNeg v4 → (wpY_freeCount (fun r_24 => (r_24 = r ∧ i_Rel (k + 5) u' (nI N, nI R, nI T, nI (rf_hg tk T), 0, ar, a_mode_23, tk, ta, tt, sT, sM, ns, cu, vs, eT, tm))) (nI N, nI R, nI T, nI (rf_hg tk T), 0, ar, a_mode_23, tk, ta, tt, sT, sM, ns, cu, vs, eT, tm)))) ∧ (¬ v4 ≤ 2 → ((-1) = r ∧ i_Rel (k + 5) u' (nI N, nI R, nI T, nI (rf_hg tk T), xs, ar, md, tk, ta, tt, sT, sM, ns, cu, vs, eT, tm)))))))))))) (nI N, nI R, nI T, nI (rf_hg tk T), xs, ar, md, tk, ta, tt, sT, sM, ns, cu, vs, eT, tm) (nI j) v2 v3) (nI N) (nI R) (nI T) (nI (rf_hg tk T)) xs xp xe ar (rq') (ex') tk ta sp sT sM hd pR pB vl := by
        intro rq' ex' hbd
        refine xw_fc (md := upd md (j * 16 + rf_tc (ar j) i) (nI m)) h2 h4 hbd _ ?_
        refine goY m (fun r' v' => r' = _ ∧ i_Rel (k + 5) _ v') hm em ⟨rfl, ?_⟩
        exact rl_mk ⟨h1, h2, h3, h4, h5, hbd, h7, h8, fun z => absurd z (by decide)⟩
      rcases hc with rfl | rfl | rfl
      · refine br_t em ?_
        unfold wX_bound_35
        rw [ec]
        refine ⟨vi, vi, nm_e ⟨vi, vi, nm_e (br_f (by rw [em]; decide) (br_f (by rw [em]; decide) (fin _ _ ?_)))⟩⟩
        refine rl_bu h2 (by omega) h6 hv (by decide) (nq _ _) (nq _ _) (fun b hb => ?_) (fun b hb => ?_)
        · rw [pk_us, rf_clr _ i (by omega) b hb]
          by_cases e : b = i
          · rw [if_pos e, decide_eq_true e]
            cases bt (rq j) b <;> rfl
          · rw [if_neg e, decide_eq_false e]
            cases bt (rq j) b <;> rfl
        · rw [pk_us, rf_clr _ i (by omega) b hb]
          by_cases e : b = i
          · rw [if_pos e, decide_eq_true e]
            cases bt (ex j) b <;> rfl
          · rw [if_neg e, decide_eq_false e]
            cases bt (ex j) b <;> rfl
      · refine br_f (by rw [em]; decide) (br_t em ?_)
        unfold wX_bound_35
        rw [ec]
        refine ⟨vi, vi, nm_e ⟨vi, vi, nm_e (br_t em ⟨vi, vi, nm_e (fin _ _ ?_)⟩)⟩⟩
        refine rl_bu h2 (by omega) h6 hv (by decide) (fun q hq => by rw [pk_un hq, pk_un hq]) (nq _ _) (fun b hb => ?_) (fun b hb => ?_)
        · rw [pk_us, pk_us, rf_set _ i (by omega) b hb]
          by_cases e : b = i
          · rw [if_pos e, decide_eq_true e]
            cases bt (rq j) b <;> rfl
          · rw [if_neg e, decide_eq_false e]
            cases bt (rq j) b <;> rfl
        · rw [pk_us, rf_clr _ i (by omega) b hb]
          by_cases e : b = i
          · rw [if_pos e, decide_eq_true e]
            cases bt (ex j) b <;> rfl
          · rw [if_neg e, decide_eq_false e]
            cases bt (ex j) b <;> rfl
      · refine br_f (by rw [em]; decide) (br_f (by rw [em]; decide) (br_t em ?_))
        unfold wX_bound_35
        rw [ec]
        refine ⟨vi, vi, nm_e ⟨vi, vi, nm_e (br_f (by rw [em]; decide) (br_t em ⟨vi, vi, nm_e (fin _ _ ?_)⟩))⟩⟩
        refine rl_bu h2 (by omega) h6 hv (by decide) (nq _ _) (fun q hq => by rw [pk_un hq, pk_un hq]) (fun b hb => ?_) (fun b hb => ?_)
        · rw [pk_us, rf_clr _ i (by omega) b hb]
          by_cases e : b = i
          · rw [if_pos e, decide_eq_true e]
            cases bt (rq j) b <;> rfl
          · rw [if_neg e, decide_eq_false e]
            cases bt (rq j) b <;> rfl
        · rw [pk_us, pk_us, rf_set _ i (by omega) b hb]
          by_cases e : b = i
          · rw [if_pos e, decide_eq_true e]
            cases bt (ex j) b <;> rfl
          · rw [if_neg e, decide_eq_false e]
            cases bt (ex j) b <;> rfl
  · exact hX _ (br_t rfl (hY _ (br_t rfl ⟨rfl, I'⟩)))
theorem i_vc_boundOf {k : Nat} {u : SX} {v : SY} (I : i_Rel k u v) (hk : k + 5 ≤ 2562) (v1 : Int32) (v2 : Int32) (v3 : Int32) : wpX_boundOf (fun r => wpY_boundOf (fun r' => r' = r ∧ i_Rel (k + 5) u v) v v1 v2 v3) u v1 v2 v3 := by
  have I' : i_Rel (k + 5) u v := I
  obtain ⟨N, R, T, xs, xp, xe, ar, rq, ex, tk, ta, sp, sT, sM, hd, pR, pB, vl, md, tt, ns, cu, vs, eT, tm, rfl, rfl, I⟩ := I
  obtain ⟨h1, h2, h3, h4, h5, h6, h7, h8, h9⟩ := I
  unfold wpX_boundOf wpY_boundOf
  dsimp only
  rcases rl_tup (xt := nI T) (xd := nI (rf_hg tk T)) (xs := xs) (xp := xp) (xe := xe) (ar := ar) (rq := rq) (ex := ex) (tk := tk) (ta := ta) (sp := sp) (sT := sT) (sM := sM) (hd := hd) (pR := pR) (pB := pB) (vl := vl) (md := md) (tt := tt) (ns := ns) (cu := cu) (vs := vs) (eT := eT) (tm := tm) h2 h4 v1 v2 v3 with ⟨j, i, hj, hi, rfl, hv, hX, hY, hix, _, _⟩ | ⟨hX, hY⟩
  · have vi : vp_in (nI j) 4 := vp_in_nI (by omega) (by omega)
    have ec : (nI j).toNatClampNeg = j := nI_clamp (by omega)
    have tl := rf_tclt h2 hv
    obtain ⟨_, hb⟩ := h6 j (by omega)
    obtain ⟨b1, b2, b3⟩ := hb i (by omega)
    rw [hv, Bool.true_and] at b1 b2
    have fin : ∀ r : Int32, md (j * 16 + rf_tc (ar j) i) = r → wpY_tupleOk (fun r_1 => (((r_1 = 0 → ((-1) = r ∧ i_Rel (k + 5) (nI N, nI R, nI T, nI (rf_hg tk T), xs, xp, xe, ar, rq, ex, tk, ta, sp, sT, sM, hd, pR, pB, vl) (nI N, nI R, nI T, nI (rf_hg tk T), xs, ar, md, tk, ta, tt, sT, sM, ns, cu, vs, eT, tm))) ∧ (¬ r_1 = 0 → (vp_in (((nI j * 16) + (v2 * 4)) + v3) 64 ∧ (md (((nI j * 16) + (v2 * 4)) + v3).toNatClampNeg = r ∧ i_Rel (k + 5) (nI N, nI R, nI T, nI (rf_hg tk T), xs, xp, xe, ar, rq, ex, tk, ta, sp, sT, sM, hd, pR, pB, vl) (nI N, nI R, nI T, nI (rf_hg tk T), xs, ar, md, tk, ta, tt, sT, sM, ns, cu, vs, eT, tm))))))) (nI N, nI R, nI T, nI (rf_hg tk T), xs, ar, md, tk, ta, tt, sT, sM, ns, cu, vs, eT, tm) (nI j) v2 v3 := by
      intro r hr
      refine hY _ (br_f (by decide) ?_)
      rw [hix, nI_clamp (show j * 16 + rf_tc (ar j) i < 2 ^ 31 by omega)]
      exact ⟨vp_in_nI (by omega) (by omega), hr, I'⟩
    refine hX _ (br_f (rf_bn0 i (by omega)) ?_)
    rw [ec]
    refine ⟨vi, ?_⟩
    rcases b3 hv with e | e | e
    · rw [e] at b1 b2
      refine br_t ((rf_ab _ i (by omega)).mpr (by rw [b1]; decide)) ⟨vi, br_t ((rf_ab _ i (by omega)).mpr (by rw [b2]; decide)) (fin 0 e)⟩
    · rw [e] at b1 b2
      exact br_f (fun z => (rf_ab _ i (by omega)).mp z (by rw [b1]; decide)) (fin 1 e)
    · rw [e] at b1 b2
      refine br_t ((rf_ab _ i (by omega)).mpr (by rw [b1]; decide)) ⟨vi, br_f (fun z => (rf_ab _ i (by omega)).mp z (by rw [b2]; decide)) (fin 2 e)⟩
  · exact hX _ (br_t rfl (hY _ (br_t rfl ⟨rfl, I'⟩)))
theorem i_vc_has {k : Nat} {u : SX} {v : SY} (I : i_Rel k u v) (hk : k + 5 ≤ 2562) (v1 : Int32) (v2 : Int32) (v3 : Int32) : wpX_has (fun r => wpY_has (fun r' => r' = r ∧ i_Rel (k + 5) u v) v v1 v2 v3) u v1 v2 v3 := by
  have I' : i_Rel (k + 5) u v := I
  obtain ⟨N, R, T, xs, xp, xe, ar, rq, ex, tk, ta, sp, sT, sM, hd, pR, pB, vl, md, tt, ns, cu, vs, eT, tm, rfl, rfl, I⟩ := I
  obtain ⟨h1, h2, h3, h4, h5, h6, h7, h8, h9⟩ := I
  by_cases hs : xs = 1
  · have h9 := h9 hs
    refine br_t hs ?_
    rcases rl_tup (xt := nI T) (xd := nI (rf_hg tk T)) (xs := xs) (xp := xp) (xe := xe) (ar := ar) (rq := rq) (ex := ex) (tk := tk) (ta := ta) (sp := sp) (sT := sT) (sM := sM) (hd := hd) (pR := pR) (pB := pB) (vl := vl) (md := md) (tt := tt) (ns := ns) (cu := cu) (vs := vs) (eT := eT) (tm := tm) h2 h4 v1 v2 v3 with ⟨j, i, hj, hi, rfl, hv, hX, hY, hix, hu, hb⟩ | ⟨hX, hY⟩
    · have vi : vp_in (nI j) 4 := vp_in_nI (by omega) (by omega)
      have ec : (nI j).toNatClampNeg = j := nI_clamp (by omega)
      have fin : ∀ r : Int32, (ns j >>> (nI i &&& 31)) &&& 1 = r → wpY_has (fun r' => r' = r ∧ i_Rel (k + 5) (nI N, nI R, nI T, nI (rf_hg tk T), xs, xp, xe, ar, rq, ex, tk, ta, sp, sT, sM, hd, pR, pB, vl) (nI N, nI R, nI T, nI (rf_hg tk T), xs, ar, md, tk, ta, tt, sT, sM, ns, cu, vs, eT, tm)) (nI N, nI R, nI T, nI (rf_hg tk T), xs, ar, md, tk, ta, tt, sT, sM, ns, cu, vs, eT, tm) (nI j) v2 v3 := by
        intro r hr
        refine br_t hs (hY _ (br_f (by decide) ⟨vi, ?_⟩))
        unfold wY_has_41
        rw [ec]
        by_cases ha : ar j = 1
        · rw [hu ha]
          exact br_t ha ⟨vi, hr, I'⟩
        · rw [hb ha]
          exact br_f ha ⟨vi, hr, I'⟩
      refine hX _ (br_f (rf_bn0 i (by omega)) ⟨vi, ?_⟩)
      rw [ec, h9 j hj]
      by_cases hbt : bt (ns j) i = true
      · exact br_f (fun z => (rf_ab _ i (by omega)).mp z hbt) (fin 1 ((rf_bo _ i (by omega)).mpr hbt))
      · exact br_t ((rf_ab _ i (by omega)).mpr hbt) (fin 0 ((rf_bz _ i (by omega)).mpr hbt))
    · exact hX _ (br_t rfl (br_t hs (hY _ (br_t rfl ⟨rfl, I'⟩))))
  · exact br_f hs (br_f hs ⟨rfl, I'⟩)
theorem i_vc_instanceSize {k : Nat} {u : SX} {v : SY} (I : i_Rel k u v) (hk : k + 5 ≤ 2562) (v1 : Int32) : wpX_instanceSize (fun r => wpY_instanceSize (fun r' => r' = r ∧ i_Rel (k + 5) u v) v v1) u v1 := by
  have I' : i_Rel (k + 5) u v := I
  obtain ⟨N, R, T, xs, xp, xe, ar, rq, ex, tk, ta, sp, sT, sM, hd, pR, pB, vl, md, tt, ns, cu, vs, eT, tm, rfl, rfl, I⟩ := I
  obtain ⟨h1, h2, h3, h4, h5, h6, h7, h8, h9⟩ := I
  by_cases hs : xs = 1
  · have h9 := h9 hs
    refine br_t hs ?_
    rcases pk_ix v1 (n := R) (by omega) with h | h | ⟨j, hj, rfl⟩
    · exact xw_irn _ _ (Or.inl h) (br_t rfl (br_t hs (br_t h ⟨rfl, I'⟩)))
    · exact xw_irn _ _ (Or.inr h) (br_t rfl (br_t hs (br_c (fun _ => ⟨rfl, I'⟩) (fun _ => br_f (Int32.not_lt.mpr h) ⟨rfl, I'⟩))))
    · have vi : vp_in (nI j) 4 := vp_in_nI (by omega) (by omega)
      have ec : (nI j).toNatClampNeg = j := nI_clamp (by omega)
      refine xw_irt _ h4 hj (br_f (by decide) ⟨vi, xw_sz _ _ ?_⟩)
      rw [ec, h9 j hj]
      refine br_t hs (br_f (nI_pos (by omega)) (br_t (nI_lt hj (by omega)) ?_))
      refine rf_lp (fun n i r => wY_instanceSize_28 _ (nI j) (nI N) (nI R) (nI T) (nI (rf_hg tk T)) xs ar md tk ta tt sT sM ns cu vs eT tm n r (nI i)) (fun i r => r + ((ns j >>> (nI i &&& 31)) &&& 1)) 16 0 (fun n => br_t (by decide) ⟨rfl, I'⟩) (fun n i r hi hn => ?_)
      refine br_f (nI_ge (b := 16) hi (by decide)) ⟨vi, ?_⟩
      rw [ec]
      exact nm_e (nm_r (nI_1 i) hn)
  · exact br_f hs (br_f hs ⟨rfl, I'⟩)
end
section
/-! add -/
theorem rl_arg {R : Nat} (hR : R ≤ 4) (k a : Int32) : ((k = 1 → ∃ q : Nat, q < R ∧ a = nI q) ∧ (k = 2 ∨ k = 21 ∨ k = 22 → ∃ v : Nat, v < 3 ∧ a = nI v)) ∨ (k = 1 ∧ (a < 0 ∨ nI R ≤ a)) ∨ ((k = 2 ∨ k = 21 ∨ k = 22) ∧ ¬ k = 1 ∧ (a < 0 ∨ nI 3 ≤ a)) := by
  by_cases h1 : k = 1
  · have hn : ¬ (k = 2 ∨ k = 21 ∨ k = 22) := by
      rw [h1]
      decide
    rcases pk_ix a (n := R) (by omega) with h | h | h
    · exact Or.inr (Or.inl ⟨h1, Or.inl h⟩)
    · exact Or.inr (Or.inl ⟨h1, Or.inr h⟩)
    · exact Or.inl ⟨fun _ => h, fun z => absurd z hn⟩
  · by_cases h2 : k = 2 ∨ k = 21 ∨ k = 22
    · rcases pk_ix a (n := 3) (by omega) with h | h | h
      · exact Or.inr (Or.inr ⟨h2, h1, Or.inl h⟩)
      · exact Or.inr (Or.inr ⟨h2, h1, Or.inr h⟩)
      · exact Or.inl ⟨fun z => absurd z h1, fun _ => h⟩
    · exact Or.inl ⟨fun z => absurd z h1, fun z => absurd z h2⟩
def rl_us (k a : Int32) : Int32 := if k = 1 ∨ k = 2 ∨ k = 21 ∨ k = 22 then a else 0
def rl_z (k : Int32) : Int32 := if k = 2 ∨ k = 21 ∨ k = 22 then 1 else 0
section
variable {xn xr xt xd xs xp xe : Int32} {ar rq ex tk ta sp sT sM hd pR pB vl md tt ns cu vs eT tm : Nat → Int32}
theorem xw_aw0 {R : Nat} (hR : R ≤ 4) (post : Int32 → Prop) (k a : Int32) (h1 : k = 1 → ∃ q : Nat, q < R ∧ a = nI q) (h2 : k = 2 ∨ k = 21 ∨ k = 22 → ∃ v : Nat, v < 3 ∧ a = nI v) (hp : post 0) : wpX_isArgWrong post (xn, nI R, xt, xd, xs, xp, xe, ar, rq, ex, tk, ta, sp, sT, sM, hd, pR, pB, vl) k a := by
  by_cases hk : k = 1
  · obtain ⟨q, hq, rfl⟩ := h1 hk
    exact br_t hk (xw_irt _ hR hq (br_f (by decide) hp))
  · refine br_f hk (xw_nv _ k ?_)
    by_cases hv : k = 2 ∨ k = 21 ∨ k = 22
    · obtain ⟨v, hv3, rfl⟩ := h2 hv
      rw [if_pos hv]
      exact br_f (by decide) (br_f (nI_pos (by omega)) (br_t (nI_lt (b := 3) hv3 (by decide)) hp))
    · rw [if_neg hv]
      exact br_t rfl hp
theorem xw_aw1 {R : Nat} (post : Int32 → Prop) (k a : Int32) (h : (k = 1 ∧ (a < 0 ∨ nI R ≤ a)) ∨ ((k = 2 ∨ k = 21 ∨ k = 22) ∧ ¬ k = 1 ∧ (a < 0 ∨ nI 3 ≤ a))) (hp : post 1) : wpX_isArgWrong post (xn, nI R, xt, xd, xs, xp, xe, ar, rq, ex, tk, ta, sp, sT, sM, hd, pR, pB, vl) k a := by
  rcases h with ⟨hk, h⟩ | ⟨hv, hk, h⟩
  · exact br_t hk (xw_irn _ _ h (br_t rfl hp))
  · refine br_f hk (xw_nv _ k ?_)
    rw [if_pos hv]
    exact br_f (by decide) (br_c (fun _ => hp) (fun hn => br_f (Int32.not_lt.mpr (h.resolve_left hn)) hp))
theorem xw_111 {T D : Nat} (hT : T < 32) (hD : D ≤ 32) (post : Int32 → SX → Prop) (k t m z : Int32) (hpp : rf_pp k ≤ D) (hDT : D ≤ T) (hp : post (nI (D - rf_pp k + 1)) (xn, xr, nI (T + 1), nI (D - rf_pp k + 1), 0, xp, xe, ar, rq, ex, tk, upd ta T z, upd sp T (rf_sp k (rf_lt k sT D) (rf_rr k sT D)), upd sT (D - rf_pp k) t, upd sM (D - rf_pp k) m, hd, pR, pB, vl)) : wX_add_111 post k (nI (rf_pp k)) t m z (nI T) xn xr (nI T) (nI D) xs xp xe ar rq ex tk ta sp sT sM hd pR pB vl := by
  have vT : vp_in (nI T) 32 := vp_in_nI hT (by omega)
  have vD : vp_in (nI (D - rf_pp k)) 32 := vp_in_nI (by omega) (by omega)
  unfold wX_add_111
  rw [nI_clamp (show T < 2 ^ 31 by omega)]
  refine ⟨vT, nm_e (xw_so hD _ k hpp ⟨vT, nm_e (nm_r (nI_1 T) (nm_r (e' := nI (D - rf_pp k)) (pk_sub hpp) ?_))⟩)⟩
  rw [nI_clamp (show D - rf_pp k < 2 ^ 31 by omega)]
  exact ⟨vD, nm_e ⟨vD, nm_e (nm_r (nI_1 _) hp)⟩⟩
theorem yw_253 {T D : Nat} (hT : T < 32) (hD : D ≤ 32) (post : Int32 → SY → Prop) (k a t m : Int32) (hpp : rf_pp k ≤ D) (hDT : D ≤ T) (hp : post (nI (D - rf_pp k + 1)) (xn, xr, nI (T + 1), nI (D - rf_pp k + 1), 0, ar, md, upd tk T k, upd ta T (rl_us k a), upd tt T t, upd sT (D - rf_pp k) t, upd sM (D - rf_pp k) m, ns, cu, vs, eT, tm)) : wY_add_253 post k a (rl_z k) (nI (rf_pp k)) t m xn xr (nI T) (nI D) xs ar md tk ta tt sT sM ns cu vs eT tm := by
  have vT : vp_in (nI T) 32 := vp_in_nI hT (by omega)
  have vD : vp_in (nI (D - rf_pp k)) 32 := vp_in_nI (by omega) (by omega)
  have go : ∀ z : Int32, z = rl_us k a → wY_add_285 post (nI (rf_pp k)) t m z (nI T) xn xr (nI T) (nI D) xs ar md (upd tk T k) ta tt sT sM ns cu vs eT tm := by
    intro z hz
    unfold wY_add_285
    rw [nI_clamp (show T < 2 ^ 31 by omega), hz]
    refine ⟨vT, nm_e ⟨vT, nm_e (nm_r (nI_1 T) (nm_r (e' := nI (D - rf_pp k)) (pk_sub hpp) ?_))⟩⟩
    rw [nI_clamp (show D - rf_pp k < 2 ^ 31 by omega)]
    exact ⟨vD, nm_e ⟨vD, nm_e (nm_r (nI_1 _) hp)⟩⟩
  unfold wY_add_253 wY_add_280
  rw [nI_clamp (show T < 2 ^ 31 by omega)]
  refine ⟨vT, nm_e ?_⟩
  unfold rl_us at go
  unfold rl_z
  by_cases h1 : k = 1
  · rw [if_pos (Or.inl h1)] at go
    exact br_t h1 (go a rfl)
  · refine br_f h1 ?_
    by_cases h2 : k = 2 ∨ k = 21 ∨ k = 22
    · rw [if_pos (Or.inr h2)] at go
      rw [if_pos h2]
      exact br_f (by decide) (go a rfl)
    · rw [if_neg (fun z => z.elim h1 h2)] at go
      rw [if_neg h2]
      exact br_t rfl (go 0 rfl)
theorem yw_192 {T D : Nat} (post : Int32 → SY → Prop) (k a lm rm lt rt : Int32) (hk : rf_kd k) (ha : k = 1 → ∃ q : Nat, q < 4 ∧ a = nI q) (ht : ∀ lt rt : Int32, (lt = 0 ∨ lt = 1 ∨ lt = 2) → (rt = 0 ∨ rt = 1 ∨ rt = 2) → ¬ rf_rt k lt rt (ar a.toNatClampNeg) = -1 → 0 ≤ rf_rt k lt rt (ar a.toNatClampNeg)) (hl : lt = 0 ∨ lt = 1 ∨ lt = 2) (hr : rt = 0 ∨ rt = 1 ∨ rt = 2)
    (hm : ∀ m : Int32, (k = 2 → m = (1 : Int32) <<< (a &&& 31)) → (k = 21 ∨ k = 22 → m = rm &&& (((1 : Int32) <<< (a &&& 31)) ^^^ (-1))) → (¬ k = 2 → ¬ (k = 21 ∨ k = 22) → m = lm ||| rm) → m = rf_mk k a sM D)
    (hb : rf_rt k lt rt (ar a.toNatClampNeg) = -1 → post (-5) (xn, xr, nI T, nI D, xs, ar, md, tk, ta, tt, sT, sM, ns, cu, vs, eT, tm)) (hg : ¬ rf_rt k lt rt (ar a.toNatClampNeg) = -1 → wY_add_253 post k a (rl_z k) (nI (rf_pp k)) (rf_rt k lt rt (ar a.toNatClampNeg)) (rf_mk k a sM D) xn xr (nI T) (nI D) xs ar md tk ta tt sT sM ns cu vs eT tm) : wY_add_192 post k a (rl_z k) (nI (rf_pp k)) rt rm lt lm xn xr (nI T) (nI D) xs ar md tk ta tt sT sM ns cu vs eT tm := by
  unfold wY_add_192
  refine yw_rt _ k lt rt a hk ha hl hr ?_
  by_cases hn : rf_rt k lt rt (ar a.toNatClampNeg) = -1
  · refine br_f ?_ (hb hn)
    rw [hn]
    decide
  · have hg := hg hn
    refine br_t (ht lt rt hl hr hn) (nm_e ?_)
    by_cases h2 : k = 2
    · have e := hm ((1 : Int32) <<< (a &&& 31)) (fun _ => rfl) (fun z => absurd z (by rw [h2]; decide)) (fun z => absurd h2 z)
      rw [← e] at hg
      exact br_t h2 (nm_e (br_f (by rw [h2]; decide) (br_f (by rw [h2]; decide) hg)))
    · refine br_f h2 ?_
      by_cases h21 : k = 21
      · have e := hm (rm &&& (((1 : Int32) <<< (a &&& 31)) ^^^ (-1))) (fun z => absurd z h2) (fun _ => rfl) (fun _ z => absurd (Or.inl h21) z)
        rw [← e] at hg
        exact br_t h21 (nm_e hg)
      · refine br_f h21 ?_
        by_cases h22 : k = 22
        · have e := hm (rm &&& (((1 : Int32) <<< (a &&& 31)) ^^^ (-1))) (fun z => absurd z h2) (fun _ => rfl) (fun _ z => absurd (Or.inr h22) z)
          rw [← e] at hg
          exact br_t h22 (nm_e hg)
        · have e := hm (lm ||| rm) (fun z => absurd z h2) (fun z => absurd z (fun w => w.elim h21 h22)) (fun _ _ => rfl)
          rw [← e] at hg
          exact br_f h22 hg
theorem yw_83 {T D : Nat} (hD : D ≤ 32) (post : Int32 → SY → Prop) (k a : Int32) (hk : rf_kd k) (hpp : rf_pp k ≤ D) (ha : k = 1 → ∃ q : Nat, q < 4 ∧ a = nI q) (ht : ∀ lt rt : Int32, (lt = 0 ∨ lt = 1 ∨ lt = 2) → (rt = 0 ∨ rt = 1 ∨ rt = 2) → ¬ rf_rt k lt rt (ar a.toNatClampNeg) = -1 → 0 ≤ rf_rt k lt rt (ar a.toNatClampNeg)) (hT : ∀ s, s < D → sT s = 0 ∨ sT s = 1 ∨ sT s = 2)
    (hb : rf_rt k (rf_lt k sT D) (rf_rr k sT D) (ar a.toNatClampNeg) = -1 → post (-5) (xn, xr, nI T, nI D, xs, ar, md, tk, ta, tt, sT, sM, ns, cu, vs, eT, tm)) (hg : ¬ rf_rt k (rf_lt k sT D) (rf_rr k sT D) (ar a.toNatClampNeg) = -1 → wY_add_253 post k a (rl_z k) (nI (rf_pp k)) (rf_rt k (rf_lt k sT D) (rf_rr k sT D) (ar a.toNatClampNeg)) (rf_mk k a sM D) xn xr (nI T) (nI D) xs ar md tk ta tt sT sM ns cu vs eT tm) : wY_add_83 post k a (rl_z k) xn xr (nI T) (nI D) xs ar md tk ta tt sT sM ns cu vs eT tm := by
  unfold wY_add_83
  refine yw_pp _ k hk (br_t (nI_le hpp (by omega)) ?_)
  have p2 := rf_ppk hk
  have hc : rf_pp k = 0 ∨ rf_pp k = 1 ∨ rf_pp k = 2 := by omega
  have key := fun lm rm lt rt => yw_192 (xn := xn) (xr := xr) (xs := xs) (T := T) (D := D) (ar := ar) (md := md) (tk := tk) (ta := ta) (tt := tt) (sT := sT) (sM := sM) (ns := ns) (cu := cu) (vs := vs) (eT := eT) (tm := tm) post k a lm rm lt rt hk ha ht
  unfold wY_add_123 wY_add_146 wY_add_169
  rcases hc with hp | hp | hp
  · have el : rf_lt k sT D = 0 := by
      unfold rf_lt
      rw [if_neg (by omega)]
    have er : rf_rr k sT D = 0 := by
      unfold rf_rr
      rw [if_pos hp]
    rw [el, er] at hb hg
    rw [hp] at key hg ⊢
    refine br_t (by decide) (br_t (by decide) (br_f (by decide) (br_f (by decide) ?_)))
    refine key 0 0 0 0 (Or.inl rfl) (Or.inl rfl) (fun m m1 m2 m3 => ?_) hb hg
    unfold rf_mk
    by_cases h2 : k = 2
    · rw [if_pos h2]
      exact m1 h2
    · have hq : ¬ (k = 21 ∨ k = 22) := by
        intro z
        rcases z with rfl | rfl <;> exact absurd hp (by decide +kernel)
      rw [if_neg h2, if_neg hq, if_pos hp]
      exact m3 h2 hq
  · have el : rf_lt k sT D = 0 := by
      unfold rf_lt
      rw [if_neg (by omega)]
    have er : rf_rr k sT D = sT (D - 1) := by
      unfold rf_rr
      rw [if_neg (by omega)]
    have es : nI D - 1 = nI (D - 1) := pk_sub (b := 1) (by omega)
    have vD : vp_in (nI (D - 1)) 32 := vp_in_nI (by omega) (by omega)
    rw [el, er] at hb hg
    rw [hp] at key hg ⊢
    refine br_f (by decide) ?_
    rw [es, nI_clamp (show D - 1 < 2 ^ 31 by omega)]
    refine ⟨vD, br_f (by decide) ⟨vD, br_f (by decide) (br_f (by decide) ?_)⟩⟩
    refine key 0 (sM (D - 1)) 0 (sT (D - 1)) (Or.inl rfl) (hT _ (by omega)) (fun m m1 m2 m3 => ?_) hb hg
    unfold rf_mk
    have h2 : ¬ k = 2 := by
      intro z
      rw [z] at hp
      exact absurd hp (by decide +kernel)
    rw [if_neg h2]
    by_cases hq : k = 21 ∨ k = 22
    · rw [if_pos hq]
      exact m2 hq
    · rw [if_neg hq, if_neg (by omega), if_pos hp, m3 h2 hq, rf_0or]
  · have el : rf_lt k sT D = sT (D - 2) := by
      unfold rf_lt
      rw [if_pos hp]
    have er : rf_rr k sT D = sT (D - 1) := by
      unfold rf_rr
      rw [if_neg (by omega)]
    have es : nI D - 1 = nI (D - 1) := pk_sub (b := 1) (by omega)
    have es2 : nI D - 2 = nI (D - 2) := pk_sub (b := 2) (by omega)
    have vD : vp_in (nI (D - 1)) 32 := vp_in_nI (by omega) (by omega)
    have vD2 : vp_in (nI (D - 2)) 32 := vp_in_nI (by omega) (by omega)
    rw [el, er] at hb hg
    rw [hp] at key hg ⊢
    refine br_f (by decide) ?_
    rw [es, es2, nI_clamp (show D - 1 < 2 ^ 31 by omega), nI_clamp (show D - 2 < 2 ^ 31 by omega)]
    refine ⟨vD, br_f (by decide) ⟨vD, br_t rfl ⟨vD2, br_t rfl ⟨vD2, ?_⟩⟩⟩⟩
    refine key (sM (D - 2)) (sM (D - 1)) (sT (D - 2)) (sT (D - 1)) (hT _ (by omega)) (hT _ (by omega)) (fun m m1 m2 m3 => ?_) hb hg
    unfold rf_mk
    have h2 : ¬ k = 2 := by
      intro z
      rw [z] at hp
      exact absurd hp (by decide +kernel)
    have hq : ¬ (k = 21 ∨ k = 22) := by
      intro z
      rcases z with rfl | rfl <;> exact absurd hp (by decide +kernel)
    rw [if_neg h2, if_neg hq, if_neg (by omega), if_neg (by omega), m3 h2 hq]
    exact b_ext (fun i _ => by rw [b_or, b_or, Bool.or_comm])
theorem yw_ad0 {R T : Nat} (post : Int32 → SY → Prop) (k a : Int32) (hR : R ≤ 4) (t2 : ¬ nI T = 32) (k1 : ¬ k < 1) (k2 : k ≤ 22) (h1 : k = 1 → ∃ q : Nat, q < R ∧ a = nI q) (h2 : k = 2 ∨ k = 21 ∨ k = 22 → ∃ v : Nat, v < 3 ∧ a = nI v) (hp : wY_add_83 post k a (rl_z k) xn (nI R) (nI T) xd xs ar md tk ta tt sT sM ns cu vs eT tm) : wpY_add post (xn, nI R, nI T, xd, xs, ar, md, tk, ta, tt, sT, sM, ns, cu, vs, eT, tm) k a := by
  have go : wY_add_45 post k a xn (nI R) (nI T) xd xs ar md tk ta tt sT sM ns cu vs eT tm := by
    unfold wY_add_45 wY_add_62 wY_add_67
    unfold rl_z at hp
    by_cases hv : k = 2 ∨ k = 21 ∨ k = 22
    · rw [if_pos hv] at hp
      obtain ⟨v, hv3, rfl⟩ := h2 hv
      have w := br_f (c := (1 : Int32) = 0) (A := wY_add_83 post k (nI v) 1 xn (nI R) (nI T) xd xs ar md tk ta tt sT sM ns cu vs eT tm) (by decide) (br_f (A := post (-1) (xn, nI R, nI T, xd, xs, ar, md, tk, ta, tt, sT, sM, ns, cu, vs, eT, tm)) (nI_pos (n := v) (by omega)) (br_t (B := post (-1) (xn, nI R, nI T, xd, xs, ar, md, tk, ta, tt, sT, sM, ns, cu, vs, eT, tm)) (nI_lt (b := 3) hv3 (by decide)) hp))
      by_cases e2 : k = 2
      · exact br_t e2 w
      · refine br_f e2 ?_
        by_cases e21 : k = 21
        · exact br_t e21 w
        · refine br_f e21 ?_
          by_cases e22 : k = 22
          · exact br_t e22 w
          · exact absurd hv (fun z => z.elim e2 (fun z => z.elim e21 e22))
    · rw [if_neg hv] at hp
      exact br_f (fun z => hv (Or.inl z)) (br_f (fun z => hv (Or.inr (Or.inl z))) (br_f (fun z => hv (Or.inr (Or.inr z))) (br_t rfl hp)))
  refine br_f t2 (br_f k1 (br_t k2 ?_))
  by_cases e1 : k = 1
  · obtain ⟨q, hq, rfl⟩ := h1 e1
    exact br_t e1 (br_f (nI_pos (by omega)) (br_t (nI_lt hq (by omega)) go))
  · exact br_f e1 go
theorem yw_ad1 {R T : Nat} (post : Int32 → SY → Prop) (k a : Int32) (t2 : ¬ nI T = 32) (k1 : ¬ k < 1) (k2 : k ≤ 22) (h : (k = 1 ∧ (a < 0 ∨ nI R ≤ a)) ∨ ((k = 2 ∨ k = 21 ∨ k = 22) ∧ ¬ k = 1 ∧ (a < 0 ∨ nI 3 ≤ a))) (hp : post (-1) (xn, nI R, nI T, xd, xs, ar, md, tk, ta, tt, sT, sM, ns, cu, vs, eT, tm)) : wpY_add post (xn, nI R, nI T, xd, xs, ar, md, tk, ta, tt, sT, sM, ns, cu, vs, eT, tm) k a := by
  refine br_f t2 (br_f k1 (br_t k2 ?_))
  rcases h with ⟨hk, h⟩ | ⟨hv, hk, h⟩
  · exact br_t hk (br_c (fun _ => hp) (fun hn => br_f (Int32.not_lt.mpr (h.resolve_left hn)) hp))
  · refine br_f hk ?_
    unfold wY_add_45 wY_add_62 wY_add_67
    have w := br_f (c := (1 : Int32) = 0) (A := wY_add_83 post k a 1 xn (nI R) (nI T) xd xs ar md tk ta tt sT sM ns cu vs eT tm) (by decide) (br_c (c := a < 0) (fun _ => hp) (fun hn => br_f (c := a < 3) (A := wY_add_83 post k a 1 xn (nI R) (nI T) xd xs ar md tk ta tt sT sM ns cu vs eT tm) (Int32.not_lt.mpr (h.resolve_left hn)) hp))
    by_cases e2 : k = 2
    · exact br_t e2 w
    · refine br_f e2 ?_
      by_cases e21 : k = 21
      · exact br_t e21 w
      · refine br_f e21 ?_
        by_cases e22 : k = 22
        · exact br_t e22 w
        · exact absurd hv (fun z => z.elim e2 (fun z => z.elim e21 e22))
end
theorem rl_kd {k : Int32} (k1 : ¬ k < 1) (k2 : k ≤ 22) : rf_kd k := by
  have h1 : 1 ≤ k := Int32.not_lt.mp k1
  obtain ⟨j, hj, rfl⟩ := nI_of2 (x := k) (M := 22) (n := 22) (by decide) (Int32.not_lt.mpr (Int32.le_trans (by decide) h1)) k2
  exact ⟨j, (nI_leI (a := 1) (b := j) (by omega) (by omega)).mp h1, hj, rfl⟩
theorem i_vc_add {k : Nat} {u : SX} {v : SY} (I : i_Rel k u v) (hk : k + 5 ≤ 2562) (v1 : Int32) (v2 : Int32) : wpX_add (fun r u' => wpY_add (fun r' v' => r' = r ∧ i_Rel (k + 5) u' v') v v1 v2) u v1 v2 := by
  have I' : i_Rel (k + 5) u v := I
  obtain ⟨N, R, T, xs, xp, xe, ar, rq, ex, tk, ta, sp, sT, sM, hd, pR, pB, vl, md, tt, ns, cu, vs, eT, tm, rfl, rfl, I⟩ := I
  obtain ⟨h1, h2, h3, h4, h5, h6, h7, h8, h9⟩ := I
  have hDT := rf_hgi tk T
  by_cases hT : T = 32
  · subst hT
    exact br_f (by decide) (br_t rfl ⟨rfl, I'⟩)
  have t1 : nI T < 32 := nI_lt (b := 32) (by omega) (by decide)
  have t2 : ¬ nI T = 32 := fun z => hT ((nI_eq (b := 32) (by omega) (by decide)).mp z)
  refine br_t t1 ?_
  by_cases k1 : v1 < 1
  · exact br_t k1 (br_f t2 (br_t k1 ⟨rfl, I'⟩))
  refine br_f k1 ?_
  by_cases k2 : v1 ≤ 22
  case neg => exact br_f k2 (br_f t2 (br_f k1 (br_f k2 ⟨rfl, I'⟩)))
  have kd := rl_kd k1 k2
  refine br_t k2 ?_
  rcases rl_arg h4 v1 v2 with ⟨a1, a2⟩ | hbad
  case inr => exact xw_aw1 _ v1 v2 hbad (br_f (by decide) (yw_ad1 _ v1 v2 t2 k1 k2 hbad ⟨rfl, I'⟩))
  refine xw_aw0 h4 _ v1 v2 a1 a2 (br_t rfl (xw_oc _ v1 kd ?_))
  have hsT : ∀ s, s < rf_hg tk T → sT s = 0 ∨ sT s = 1 ∨ sT s = 2 := fun s hs => (h8 s hs).2
  by_cases hpp : rf_pp v1 ≤ rf_hg tk T
  case neg =>
    refine br_f (nI_ge (by omega) (by have := rf_ppk kd; omega)) (yw_ad0 _ v1 v2 h4 t2 k1 k2 a1 a2 ?_)
    unfold wY_add_83
    exact yw_pp _ v1 kd (br_f (nI_ge (by omega) (by have := rf_ppk kd; omega)) ⟨rfl, I'⟩)
  have har : v1 = 1 → ∃ q : Nat, q < 4 ∧ v2 = nI q ∧ (ar q = 1 ∨ ar q = 2) := by
    intro z
    obtain ⟨q, hq, e⟩ := a1 z
    exact ⟨q, by omega, e, (h6 q (by omega)).1⟩
  have har' : v1 = 1 → ∃ q : Nat, q < 4 ∧ v2 = nI q := by
    intro z
    obtain ⟨q, hq, e, _⟩ := har z
    exact ⟨q, hq, e⟩
  have hrt3 : ∀ lt rt : Int32, (lt = 0 ∨ lt = 1 ∨ lt = 2) → (rt = 0 ∨ rt = 1 ∨ rt = 2) → ¬ rf_rt v1 lt rt (ar v2.toNatClampNeg) = -1 → rf_rt v1 lt rt (ar v2.toNatClampNeg) = 0 ∨ rf_rt v1 lt rt (ar v2.toNatClampNeg) = 1 ∨ rf_rt v1 lt rt (ar v2.toNatClampNeg) = 2 := by
    intro lt rt hl hr hn
    by_cases e1 : v1 = 1
    · obtain ⟨q, hq, e, hqr⟩ := har e1
      have ec : ar v2.toNatClampNeg = ar q := by rw [e, nI_clamp (show q < 2 ^ 31 by omega)]
      rw [ec] at hn ⊢
      exact rf_rt3 hl hr hqr hn
    · rw [rf_rtc (rb := 1) e1] at hn ⊢
      exact rf_rt3 hl hr (Or.inl rfl) hn
  have hrt0 : ∀ lt rt : Int32, (lt = 0 ∨ lt = 1 ∨ lt = 2) → (rt = 0 ∨ rt = 1 ∨ rt = 2) → ¬ rf_rt v1 lt rt (ar v2.toNatClampNeg) = -1 → 0 ≤ rf_rt v1 lt rt (ar v2.toNatClampNeg) := by
    intro lt rt hl hr hn
    rcases hrt3 lt rt hl hr hn with e | e | e <;> rw [e] <;> decide
  have hlt : rf_lt v1 sT (rf_hg tk T) = 0 ∨ rf_lt v1 sT (rf_hg tk T) = 1 ∨ rf_lt v1 sT (rf_hg tk T) = 2 := by
    unfold rf_lt
    by_cases e : rf_pp v1 = 2
    · rw [if_pos e]
      exact hsT _ (by omega)
    · rw [if_neg e]
      exact Or.inl rfl
  have hrr : rf_rr v1 sT (rf_hg tk T) = 0 ∨ rf_rr v1 sT (rf_hg tk T) = 1 ∨ rf_rr v1 sT (rf_hg tk T) = 2 := by
    unfold rf_rr
    by_cases e : rf_pp v1 = 0
    · rw [if_pos e]
      exact Or.inl rfl
    · rw [if_neg e]
      exact hsT _ (by omega)
  refine br_t (nI_le hpp (by omega)) (xw_rt (by omega) _ v1 v2 kd hpp har hsT ?_)
  by_cases hn : rf_rt v1 (rf_lt v1 sT (rf_hg tk T)) (rf_rr v1 sT (rf_hg tk T)) (ar v2.toNatClampNeg) = -1
  · have e5 : rf_er (rf_rt v1 (rf_lt v1 sT (rf_hg tk T)) (rf_rr v1 sT (rf_hg tk T)) (ar v2.toNatClampNeg)) = -5 := if_pos hn
    rw [e5]
    exact br_t rfl (yw_ad0 _ v1 v2 h4 t2 k1 k2 a1 a2 (yw_83 (by omega) _ v1 v2 kd hpp har' hrt0 hsT (fun _ => ⟨rfl, I'⟩) (fun z => absurd hn z)))
  · have e5 : rf_er (rf_rt v1 (rf_lt v1 sT (rf_hg tk T)) (rf_rr v1 sT (rf_hg tk T)) (ar v2.toNatClampNeg)) = rf_rt v1 (rf_lt v1 sT (rf_hg tk T)) (rf_rr v1 sT (rf_hg tk T)) (ar v2.toNatClampNeg) := if_neg hn
    have h3' := hrt3 _ _ hlt hrr hn
    rw [e5]
    have vT : vp_in (nI T) 32 := vp_in_nI (by omega) (by omega)
    have wfn : rf_wf R ar sT (rf_hg tk T) v1 (rl_us v1 v2) (rf_rt v1 (rf_lt v1 sT (rf_hg tk T)) (rf_rr v1 sT (rf_hg tk T)) (ar v2.toNatClampNeg)) (rf_sp v1 (rf_lt v1 sT (rf_hg tk T)) (rf_rr v1 sT (rf_hg tk T))) := by
      refine ⟨kd, hpp, ?_, hn, ?_, ?_, rfl⟩
      · by_cases e1 : v1 = 1
        · have e : rl_us v1 v2 = v2 := if_pos (Or.inl e1)
          rw [e]
        · exact rf_rtc e1
      · intro e1
        have e : rl_us v1 v2 = v2 := if_pos (Or.inl e1)
        rw [e]
        exact a1 e1
      · intro e1
        have e : rl_us v1 v2 = v2 := if_pos (Or.inr e1)
        rw [e]
        exact a2 e1
    have relN : ∀ (xp' xe' : Int32), i_Rel (k + 5) (nI N, nI R, nI (T + 1), nI (rf_hg tk T - rf_pp v1 + 1), 0, xp, xe, ar, rq, ex, upd tk T v1, upd ta T (rl_us v1 v2), upd sp T (rf_sp v1 (rf_lt v1 sT (rf_hg tk T)) (rf_rr v1 sT (rf_hg tk T))), upd sT (rf_hg tk T - rf_pp v1) (rf_rt v1 (rf_lt v1 sT (rf_hg tk T)) (rf_rr v1 sT (rf_hg tk T)) (ar v2.toNatClampNeg)), upd sM (rf_hg tk T - rf_pp v1) (rf_mk v1 v2 sM (rf_hg tk T)), hd, pR, pB, vl) (nI N, nI R, nI (T + 1), nI (rf_hg tk T - rf_pp v1 + 1), 0, ar, md, upd tk T v1, upd ta T (rl_us v1 v2), upd tt T (rf_rt v1 (rf_lt v1 sT (rf_hg tk T)) (rf_rr v1 sT (rf_hg tk T)) (ar v2.toNatClampNeg)), upd sT (rf_hg tk T - rf_pp v1) (rf_rt v1 (rf_lt v1 sT (rf_hg tk T)) (rf_rr v1 sT (rf_hg tk T)) (ar v2.toNatClampNeg)), upd sM (rf_hg tk T - rf_pp v1) (rf_mk v1 v2 sM (rf_hg tk T)), ns, cu, vs, eT, tm) := by
      intro xp' xe'
      rw [← rf_hgs (tk := tk) (T := T) (k := v1)]
      refine rl_mk ⟨h1, h2, h3, h4, by omega, h6, rf_WFs h7 (rf_wfc (fun s hs => (h8 s hs).1.symm) wfn), ?_, fun z => absurd z (by decide)⟩
      intro s hs
      rw [rf_hgs] at hs
      rw [rf_tys]
      by_cases e : s = rf_hg tk T - rf_pp v1
      · rw [e, pk_us, pk_us]
        exact ⟨rfl, h3'⟩
      · rw [pk_un e, pk_un e]
        exact h8 s (by omega)
    have goY : ∀ (r : Int32) (u' : SX), r = nI (rf_hg tk T - rf_pp v1 + 1) → u' = (nI N, nI R, nI (T + 1), nI (rf_hg tk T - rf_pp v1 + 1), 0, xp, xe, ar, rq, ex, upd tk T v1, upd ta T (rl_us v1 v2), upd sp T (rf_sp v1 (rf_lt v1 sT (rf_hg tk T)) (rf_rr v1 sT (rf_hg tk T))), upd sT (rf_hg tk T - rf_pp v1) (rf_rt v1 (rf_lt v1 sT (rf_hg tk T)) (rf_rr v1 sT (rf_hg tk T)) (ar v2.toNatClampNeg)), upd sM (rf_hg tk T - rf_pp v1) (rf_mk v1 v2 sM (rf_hg tk T)), hd, pR, pB, vl) → wpY_add (fun r' v' => r' = r ∧ i_Rel (k + 5) u' v') (nI N, nI R, nI T, nI (rf_hg tk T), xs, ar, md, tk, ta, tt, sT, sM, ns, cu, vs, eT, tm) v1 v2 := by
      intro r u' er eu
      subst er eu
      exact yw_ad0 _ v1 v2 h4 t2 k1 k2 a1 a2 (yw_83 (by omega) _ v1 v2 kd hpp har' hrt0 hsT (fun z => absurd z hn) (fun _ => yw_253 (by omega) (by omega) _ v1 v2 _ _ hpp hDT ⟨rfl, relN xp xe⟩))
    refine br_f (fun z => ?_) (xw_mk (by omega) _ v1 v2 kd hpp ⟨vT, ?_⟩)
    · rcases h3' with e | e | e <;> rw [e] at z <;> exact absurd z (by decide)
    · rw [nI_clamp (show T < 2 ^ 31 by omega)]
      refine nm_e (xw_ua _ v1 ?_)
      by_cases hu : v1 = 1 ∨ v1 = 2 ∨ v1 = 21 ∨ v1 = 22
      · have e : rl_us v1 v2 = v2 := if_pos hu
        rw [if_pos hu]
        exact br_f (by decide) (xw_111 (by omega) (by omega) _ v1 _ _ _ hpp hDT (goY _ _ rfl (by rw [e])))
      · have e : rl_us v1 v2 = 0 := if_neg hu
        rw [if_neg hu]
        exact br_t rfl (xw_111 (by omega) (by omega) _ v1 _ _ _ hpp hDT (goY _ _ rfl (by rw [e])))
end
section
/-! solve -/
def rl_sat (N : Nat) (ar md : Nat → Int32) (F : Nat) (tk ta tt : Nat → Int32) (T c : Nat) : Prop := ¬ rf_ps N (rf_as N ar md F (nI c)) tk ta tt T 0 0 = 0
theorem rl_2F {F : Nat} (h : F ≤ 12) : 2 ^ F ≤ 4096 := Nat.pow_le_pow_right (n := 2) (by decide) h
section
variable {xn xr xt xd xs xp xe : Int32} {ar rq ex tk ta sp sT sM hd pR pB vl md tt ns cu vs eT tm : Nat → Int32}
theorem xw_s66 {N R T F g : Nat} (h1 : 1 ≤ N) (hN : N ≤ 4) (hR : R ≤ 4) (hT : T ≤ 32) (hF : F ≤ 12) (hg : g ≤ 3) (hb : rf_bd N ar md rq ex) (hFe : F = rf_cn (rf_fq N ar md) (R * 16)) (hpl : rf_pl N ar md (R * 16) pR pB) (hW : rf_WF R ar tk ta tt sp T) (hvg : ∀ i, i < T → tk i = 2 ∨ tk i = 21 ∨ tk i = 22 → ∀ v : Nat, ta i = nI v → v < 3 → v < g) (hD : rf_hg tk T = 1) (post : Int32 → SX → Prop)
    (H1 : ∀ c, c < 2 ^ F → rl_sat N ar md F tk ta tt T c → (∀ d, d < c → ¬ rl_sat N ar md F tk ta tt T d) → ∀ h w, (∀ q, q < R → h q = rf_as N ar md F (nI c) q) → post 1 (nI N, nI R, nI T, xd, 1, nI F, nI (4 ^ g), ar, rq, ex, tk, ta, sp, sT, sM, h, pR, pB, w))
    (H2 : (∀ d, d < 2 ^ F → ¬ rl_sat N ar md F tk ta tt T d) → ∀ h w, post 2 (nI N, nI R, nI T, xd, 2, nI F, nI (4 ^ g), ar, rq, ex, tk, ta, sp, sT, sM, h, pR, pB, w)) :
    ∃ n, wX_solve_66 post (nI (2 ^ F)) n 0 (nI N) (nI R) (nI T) xd 2 (nI F) (nI (4 ^ g)) ar rq ex tk ta sp sT sM hd pR pB vl := by
  have h2 := rl_2F hF
  refine loop_0 (fun n c (z : (Nat → Int32) × (Nat → Int32)) => wX_solve_66 post (nI (2 ^ F)) n (nI c) (nI N) (nI R) (nI T) xd 2 (nI F) (nI (4 ^ g)) ar rq ex tk ta sp sT sM z.1 pR pB z.2) (fun c _ => ∀ d, d < c → ¬ rl_sat N ar md F tk ta tt T d) (2 ^ F) (hd, vl) (fun d hd => absurd hd (Nat.not_lt_zero d)) (fun n z h => br_t (nI_le (Nat.le_refl _) (by omega)) (H2 h z.1 z.2)) (fun n c z hc h k => ?_)
  refine br_f (nI_ge hc (by omega)) ?_
  refine xw_as hN hR hF hb hFe hpl _ (fun hh e => ?_)
  refine xw_fh h1 hN hR hT hg hW hvg (cur := rf_as N ar md F (nI c)) (fun q hq => rf_asok N ar md F (nI c) q (hb q (by omega)).1) e hD _ (fun w => ?_)
  by_cases hs : rf_ps N (rf_as N ar md F (nI c)) tk ta tt T 0 0 = 0
  · rw [if_pos hs]
    refine br_t rfl (nm_r (nI_1 c) (k (hh, w) (fun d hd => ?_)))
    by_cases ed : d = c
    · subst ed
      exact fun z => z hs
    · exact h d (by omega)
  · rw [if_neg hs]
    exact br_f (by decide) (H1 c hc hs h hh w e)
end
section
variable {xn xr xt xd xs xp xe : Int32} {ar rq ex tk ta sp sT sM hd pR pB vl md tt ns cu vs eT tm : Nat → Int32}
theorem yw_s52 {N R T F : Nat} (h1 : 1 ≤ N) (hN : N ≤ 4) (hR : R ≤ 4) (hT : T ≤ 32) (hF : F ≤ 12) (hb : rf_bd N ar md rq ex) (hFe : F = rf_cn (rf_fq N ar md) (R * 16)) (hW : rf_WF R ar tk ta tt sp T) (hD : rf_hg tk T = 1) (post : Int32 → SY → Prop)
    (H1 : ∀ c, c < 2 ^ F → rl_sat N ar md F tk ta tt T c → (∀ d, d < c → ¬ rl_sat N ar md F tk ta tt T d) → ∀ i h w e t, (∀ q, q < R → i q = rf_as N ar md F (nI c) q) → post 1 (nI N, nI R, nI T, xd, 1, ar, md, tk, ta, tt, sT, sM, i, h, w, e, t))
    (H2 : (∀ d, d < 2 ^ F → ¬ rl_sat N ar md F tk ta tt T d) → ∀ h w e t, post 2 (nI N, nI R, nI T, xd, 2, ar, md, tk, ta, tt, sT, sM, ns, h, w, e, t)) :
    ∃ n, wY_solve_52 post (nI F) (nI (2 ^ F)) n 0 (nI N) (nI R) (nI T) xd xs ar md tk ta tt sT sM ns cu vs eT tm := by
  have h2 := rl_2F hF
  refine loop_0 (fun n c (z : (Nat → Int32) × (Nat → Int32) × (Nat → Int32) × (Nat → Int32)) => wY_solve_52 post (nI F) (nI (2 ^ F)) n (nI c) (nI N) (nI R) (nI T) xd xs ar md tk ta tt sT sM ns z.1 z.2.1 z.2.2.1 z.2.2.2) (fun c _ => ∀ d, d < c → ¬ rl_sat N ar md F tk ta tt T d) (2 ^ F) (cu, vs, eT, tm) (fun d hd => absurd hd (Nat.not_lt_zero d)) (fun n z h => br_t (nI_le (Nat.le_refl _) (by omega)) (H2 h z.1 z.2.1 z.2.2.1 z.2.2.2)) (fun n c z hc h k => ?_)
  refine br_f (nI_ge hc (by omega)) ?_
  refine yw_bu hN hR hF hFe _ (fun hh e => ?_)
  refine yw_ev h1 hN hR hT hW (cur := rf_as N ar md F (nI c)) (fun q hq => rf_asok N ar md F (nI c) q (hb q (by omega)).1) e hD _ (fun w ev t => ?_)
  by_cases hs : rf_ps N (rf_as N ar md F (nI c)) tk ta tt T 0 0 = 0
  · rw [if_pos hs]
    refine br_t rfl (nm_r (nI_1 c) (k (hh, w, ev, t) (fun d hd => ?_)))
    by_cases ed : d = c
    · subst ed
      exact fun z => z hs
    · exact h d (by omega)
  · rw [if_neg hs]
    refine br_f (by decide) ?_
    refine loop_0 (fun m i (x : Nat → Int32) => wY_solve_73 post (nI N) (nI R) (nI T) xd xs m (nI i) ar md tk ta tt sT sM x hh w ev t) (fun i x => ∀ q, q < i → x q = hh q) 4 ns (fun d hd => absurd hd (Nat.not_lt_zero d)) (fun m x hx => br_t (by decide) (H1 c hc hs h x hh w ev t (fun q hq => by rw [hx q (by omega)]; exact e q hq))) (fun m i x hi hx kk => ?_)
    have vi : vp_in (nI i) 4 := vp_in_nI (by omega) (by omega)
    refine br_f (nI_ge (b := 4) hi (by decide)) ?_
    rw [nI_clamp (show i < 2 ^ 31 by omega)]
    refine ⟨vi, vi, nm_e (nm_r (nI_1 i) (kk _ ?_))⟩
    intro q hq
    by_cases eq : q = i
    · subst eq
      exact pk_us
    · rw [pk_un eq]
      exact hx q (by omega)
end
theorem i_vc_solve {k : Nat} {u : SX} {v : SY} (I : i_Rel k u v) (hk : k + 5 ≤ 2562) : wpX_solve (fun r u' => wpY_solve (fun r' v' => r' = r ∧ i_Rel (k + 5) u' v') v) u := by
  have I' : i_Rel (k + 5) u v := I
  obtain ⟨N, R, T, xs, xp, xe, ar, rq, ex, tk, ta, sp, sT, sM, hd, pR, pB, vl, md, tt, ns, cu, vs, eT, tm, rfl, rfl, I⟩ := I
  obtain ⟨h1, h2, h3, h4, h5, h6, h7, h8, h9⟩ := I
  have hDT := rf_hgi tk T
  by_cases d1 : nI (rf_hg tk T) = 1
  case neg => exact br_f d1 (br_f d1 ⟨rfl, I'⟩)
  have hD : rf_hg tk T = 1 := (nI_eq (b := 1) (by omega) (by decide)).mp d1
  refine br_t d1 ?_
  by_cases d2 : sT 0 = 0
  case neg => exact br_f d2 (br_t d1 (br_f d2 ⟨rfl, I'⟩))
  refine br_t d2 ?_
  by_cases d3 : sM 0 = 0
  case neg => exact br_f d3 (br_t d1 (br_t d2 (br_f d3 ⟨rfl, I'⟩)))
  refine br_t d3 (xw_fc h2 h4 h6 _ ?_)
  by_cases hF : rf_cn (rf_fq N ar md) (R * 16) ≤ 12
  case neg =>
    have hle := rf_cnle (rf_fq N ar md) (R * 16)
    have hn : ¬ nI (rf_cn (rf_fq N ar md) (R * 16)) ≤ 12 := nI_ge (a := 12) (by omega) (by omega)
    exact br_f hn (br_t d1 (br_t d2 (br_t d3 (yw_fc h2 h4 _ (br_f hn ⟨rfl, I'⟩)))))
  have hF12 : nI (rf_cn (rf_fq N ar md) (R * 16)) ≤ 12 := nI_le (b := 12) hF (by decide)
  refine br_t hF12 (xw_lp h2 h4 h6 hF _ (fun pR' pB' hpl => ?_))
  refine xw_ce h5 h7 _ (fun g hg hvg => ?_)
  have hYs : ∀ post : Int32 → SY → Prop, (∃ n, wY_solve_52 post (nI (rf_cn (rf_fq N ar md) (R * 16))) (nI (2 ^ rf_cn (rf_fq N ar md) (R * 16))) n 0 (nI N) (nI R) (nI T) (nI (rf_hg tk T)) xs ar md tk ta tt sT sM ns cu vs eT tm) → wpY_solve post (nI N, nI R, nI T, nI (rf_hg tk T), xs, ar, md, tk, ta, tt, sT, sM, ns, cu, vs, eT, tm) := by
    intro post hp
    exact br_t d1 (br_t d2 (br_t d3 (yw_fc h2 h4 _ (br_t hF12 (nm_r (rf_2F _ (by omega)) hp)))))
  refine nm_r (rf_2F _ (by omega)) ?_
  refine xw_s66 h1 h2 h4 h5 hF hg h6 rfl hpl h7 hvg hD _ (fun c hc hs hmin h w e => ?_) (fun hno h w => ?_)
  · refine hYs _ (yw_s52 h1 h2 h4 h5 hF h6 rfl h7 hD _ (fun c' hc' hs' hmin' i h' w' e' t' ei => ⟨rfl, ?_⟩) (fun hno' => absurd hs (hno' c hc)))
    have ec : c' = c := by
      rcases Nat.lt_trichotomy c' c with z | z | z
      · exact absurd hs' (hmin c' z)
      · exact z
      · exact absurd hs (hmin' c z)
    subst ec
    exact rl_mk ⟨h1, h2, h3, h4, h5, h6, h7, h8, fun _ q hq => (e q hq).trans (ei q hq).symm⟩
  · refine hYs _ (yw_s52 h1 h2 h4 h5 hF h6 rfl h7 hD _ (fun c' hc' hs' _ _ _ _ _ _ _ => absurd hs' (hno c' hc')) (fun _ h' w' e' t' => ⟨rfl, ?_⟩))
    exact rl_mk ⟨h1, h2, h3, h4, h5, h6, h7, h8, fun z => absurd z (by decide)⟩
end
