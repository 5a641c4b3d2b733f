/-! blocks of an array, loops as folds, index arithmetic of the environments -/
def rf_bk (v : Nat → Int32) (c n : Nat) (g : Nat → Int32) : Nat → Int32 := fun j => if c ≤ j ∧ j < c + n then g (j - c) else v j
theorem rf_bk0 (v : Nat → Int32) (c : Nat) (g : Nat → Int32) : rf_bk v c 0 g = v := by
  funext j
  exact if_neg (by omega)
theorem rf_bks (v : Nat → Int32) (c n : Nat) (g : Nat → Int32) : upd (rf_bk v c n g) (c + n) (g n) = rf_bk v c (n + 1) g := by
  funext j
  show (if j = c + n then g n else if c ≤ j ∧ j < c + n then g (j - c) else v j) = (if c ≤ j ∧ j < c + (n + 1) then g (j - c) else v j)
  by_cases h : j = c + n
  · rw [if_pos h, if_pos (by omega), show j - c = n by omega]
  · rw [if_neg h]
    by_cases h2 : c ≤ j ∧ j < c + n
    · rw [if_pos h2, if_pos (by omega)]
    · rw [if_neg h2, if_neg (by omega)]
theorem rf_bki {v : Nat → Int32} {c n : Nat} {g : Nat → Int32} {i : Nat} (h : i < n) : rf_bk v c n g (c + i) = g i := by
  show (if c ≤ c + i ∧ c + i < c + n then g (c + i - c) else v (c + i)) = g i
  rw [if_pos (by omega), Nat.add_sub_cancel_left]
theorem rf_bko {v : Nat → Int32} {c n : Nat} {g : Nat → Int32} {j : Nat} (h : j < c ∨ c + n ≤ j) : rf_bk v c n g j = v j := if_neg (by omega)
theorem rf_lp {σ : Type} (W : Nat → Nat → σ → Prop) (F : Nat → σ → σ) (e : Nat) (s : σ) (hx : ∀ n, W (n + 1) e (rf_it F s e)) (hs : ∀ n i s, i < e → W n (i + 1) (F i s) → W (n + 1) i s) : ∃ n, W n 0 s :=
  loop_0 W (fun i t => t = rf_it F s i) e s rfl (fun n s' h => by rw [h]; exact hx n) (fun n i s' hi h k => hs n i s' hi (k _ (by rw [h]; rfl)))
theorem rf_o1it (z : Int32) (f : Nat → Int32) : ∀ n, rf_it (fun k r => r ||| f k) z n = rf_o1 z f n := by
  intro n
  induction n with
  | zero => rfl
  | succ n ih =>
    show rf_it (fun k r => r ||| f k) z n ||| f n = rf_o1 z f n ||| f n
    rw [ih]
theorem rf_o2it (z : Int32) (f : Nat → Nat → Int32) (m : Nat) : ∀ n, rf_it (fun k r => rf_o1 r (f k) m) z n = rf_o2 z f m n := by
  intro n
  induction n with
  | zero => rfl
  | succ n ih =>
    show rf_o1 (rf_it (fun k r => rf_o1 r (f k) m) z n) (f n) m = rf_o1 (rf_o2 z f m n) (f n) m
    rw [ih]
theorem rf_4 (a : Nat) : nI a * 4 = nI (a * 4) := pk_mul a 4
theorem rf_5 (a : Nat) : nI a * 5 = nI (a * 5) := pk_mul a 5
theorem rf_16 (a : Nat) : nI a * 16 = nI (a * 16) := pk_mul a 16
theorem rf_64 (a : Nat) : nI a * 64 = nI (a * 64) := pk_mul a 64
theorem rf_2 (a : Nat) : 2 * nI a = nI (2 * a) := pk_mul 2 a
/-! digits -/
theorem rf_dgI : ∀ v, v < 3 → ∀ e, e < 64 → (nI e >>> (nI (2 * v) &&& 31)) &&& 3 = nI (rf_dg v e) := by decide +kernel
theorem rf_sdI : ∀ v, v < 3 → ∀ e, e < 64 → ∀ d, d < 4 → (nI e &&& (((3 : Int32) <<< (nI (2 * v) &&& 31)) ^^^ (-1))) ||| (nI d <<< (nI (2 * v) &&& 31)) = nI (rf_sd v e d) := by decide +kernel
theorem rf_asI : ∀ v, v < 3 → ∀ d, d < 4 → nI d <<< (nI (2 * v) &&& 31) = nI (d * 4 ^ v) := by decide +kernel
theorem rf_cd : ∀ v, v < 3 → ∀ e, e < 64 → rf_sd v e 0 + rf_dg v e * 4 ^ v = e ∧ rf_dg v e < 4 ∧ rf_sd v e 0 ≤ e := by decide +kernel
theorem rf_sda : ∀ v, v < 3 → ∀ e, e < 64 → ∀ d, rf_sd v e d = rf_sd v e 0 + d * 4 ^ v := by
  intro v _ e _ d
  unfold rf_sd
  omega
theorem rf_cz : ∀ v, v < 3 → ∀ e, e < 64 → rf_dg v e = 0 → rf_sd v e 0 = e := by decide +kernel
theorem rf_cs : ∀ v, v < 3 → ∀ e, e < 64 → ∀ d, d < 4 → rf_dg v e = 0 → rf_dg v (e + d * 4 ^ v) = d ∧ rf_sd v (e + d * 4 ^ v) 0 = e ∧ e + d * 4 ^ v < 64 := by decide +kernel
theorem rf_cc : ∀ v, v < 3 → ∀ e, e < 64 → rf_dg v (rf_sd v e 0) = 0 ∧ rf_sd v e 0 < 64 := by decide +kernel
