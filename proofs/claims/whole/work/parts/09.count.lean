/-! sizes, positions, X's assignment by bits -/
def rf_sz (x : Int32) (n : Nat) : Int32 := rf_it (fun i r => r + ((x >>> (nI i &&& 31)) &&& 1)) 0 n
theorem rf_szn (x : Int32) : ∀ n, n ≤ 32 → rf_sz x n = nI (rf_cn (bt x) n) := by
  intro n
  induction n with
  | zero => exact fun _ => nI_0.symm
  | succ n ih =>
    intro hn
    have ih := ih (by omega)
    show rf_sz x n + ((x >>> (nI n &&& 31)) &&& 1) = _
    rw [ih, rf_bit x n (by omega), rf_cns]
    by_cases h : bt x n = true
    · rw [if_pos h, if_pos h]
      exact nI_1 _
    · rw [if_neg h, if_neg h, Int32.add_zero, Nat.add_zero]
theorem rf_szf {N : Nat} (hN : N ≤ 4) {ar md rq ex : Nat → Int32} (hb : rf_bd N ar md rq ex) {q : Nat} (hq : q < 4) : nI (rf_cn (rf_fq N ar md) (q * 16)) + rf_sz (rf_ft N (ar q) (rq q) (ex q)) 16 = nI (rf_cn (rf_fq N ar md) ((q + 1) * 16)) := by
  rw [rf_szn _ 16 (by omega), rf_cnc _ (rf_fr N ar md q) 16 (fun i hi => rf_ftb hN hb hq i (by omega)), nI_add, show (q + 1) * 16 = q * 16 + 16 by omega, rf_cq N ar md q 16 (by omega)]
/-- the positions listed before cell y -/
def rf_pl (N : Nat) (ar md : Nat → Int32) (y : Nat) (pR pB : Nat → Int32) : Prop := ∀ x, x < rf_cn (rf_fq N ar md) y → ∃ z, z < y ∧ rf_fq N ar md z = true ∧ x = rf_cn (rf_fq N ar md) z ∧ pR x = nI (z / 16) ∧ pB x = (1 : Int32) <<< (nI (z % 16) &&& 31)
theorem rf_pl0 (N : Nat) (ar md pR pB : Nat → Int32) : rf_pl N ar md 0 pR pB := fun x hx => absurd hx (Nat.not_lt_zero x)
theorem rf_pln {N : Nat} {ar md : Nat → Int32} {y : Nat} {pR pB : Nat → Int32} (h : rf_pl N ar md y pR pB) (hf : ¬ rf_fq N ar md y = true) : rf_pl N ar md (y + 1) pR pB := by
  intro x hx
  rw [rf_cnf hf] at hx
  obtain ⟨z, hz, r⟩ := h x hx
  exact ⟨z, by omega, r⟩
theorem rf_plt {N : Nat} {ar md : Nat → Int32} {y : Nat} {pR pB : Nat → Int32} (h : rf_pl N ar md y pR pB) (hf : rf_fq N ar md y = true) : rf_pl N ar md (y + 1) (upd pR (rf_cn (rf_fq N ar md) y) (nI (y / 16))) (upd pB (rf_cn (rf_fq N ar md) y) ((1 : Int32) <<< (nI (y % 16) &&& 31))) := by
  intro x hx
  rw [rf_cnt hf] at hx
  by_cases e : x = rf_cn (rf_fq N ar md) y
  · subst e
    exact ⟨y, by omega, hf, rfl, pk_us, pk_us⟩
  · obtain ⟨z, hz, h1, h2, h3, h4⟩ := h x (by omega)
    exact ⟨z, by omega, h1, h2, by rw [pk_un e]; exact h3, by rw [pk_un e]; exact h4⟩
/-- X's assignment after i positions -/
def rf_hi (N R F : Nat) (ar md rq : Nat → Int32) (c : Int32) (i : Nat) (h : Nat → Int32) : Prop := ∀ q, q < R → ∀ j, j < 32 →
  (bt (h q) j = true ↔ bt (rq q) j = true ∨ ∃ z, z < R * 16 ∧ rf_fq N ar md z = true ∧ z / 16 = q ∧ z % 16 = j ∧ rf_cn (rf_fq N ar md) z < i ∧ bt c (F - 1 - rf_cn (rf_fq N ar md) z) = true)
theorem rf_hi0 {N R F : Nat} {ar md rq : Nat → Int32} {c : Int32} {h : Nat → Int32} (e : ∀ q, q < R → h q = rq q) : rf_hi N R F ar md rq c 0 h := by
  intro q hq j _
  rw [e q hq]
  exact ⟨Or.inl, fun z => z.elim id (fun ⟨_, _, _, _, _, z, _⟩ => absurd z (Nat.not_lt_zero _))⟩
theorem rf_hin {N R F : Nat} {ar md rq : Nat → Int32} {c : Int32} {i : Nat} {h : Nat → Int32} (hh : rf_hi N R F ar md rq c i h) (hb : ¬ bt c (F - 1 - i) = true) : rf_hi N R F ar md rq c (i + 1) h := by
  intro q hq j hj
  rw [hh q hq j hj]
  constructor
  · rintro (h | ⟨z, h1, h2, h3, h4, h5, h6⟩)
    · exact Or.inl h
    · exact Or.inr ⟨z, h1, h2, h3, h4, by omega, h6⟩
  · rintro (h | ⟨z, h1, h2, h3, h4, h5, h6⟩)
    · exact Or.inl h
    · by_cases e : rf_cn (rf_fq N ar md) z = i
      · rw [e] at h6
        exact absurd h6 hb
      · exact Or.inr ⟨z, h1, h2, h3, h4, by omega, h6⟩
theorem rf_hit {N R F : Nat} {ar md rq : Nat → Int32} {c : Int32} {i : Nat} {h : Nat → Int32} (hh : rf_hi N R F ar md rq c i h) (hb : bt c (F - 1 - i) = true) {z : Nat} (hz : z < R * 16) (hf : rf_fq N ar md z = true) (hi : i = rf_cn (rf_fq N ar md) z) : rf_hi N R F ar md rq c (i + 1) (upd h (z / 16) (h (z / 16) ||| (1 : Int32) <<< (nI (z % 16) &&& 31))) := by
  intro q hq j hj
  by_cases e : q = z / 16
  · subst e
    rw [pk_us, b_or, Bool.or_eq_true, hh _ hq j hj, rf_sb (z % 16) (by omega) j hj]
    constructor
    · rintro ((h | ⟨w, h1, h2, h3, h4, h5, h6⟩) | h)
      · exact Or.inl h
      · exact Or.inr ⟨w, h1, h2, h3, h4, by omega, h6⟩
      · exact Or.inr ⟨z, hz, hf, rfl, h.symm, by omega, by rw [← hi]; exact hb⟩
    · rintro (h | ⟨w, h1, h2, h3, h4, h5, h6⟩)
      · exact Or.inl (Or.inl h)
      · by_cases e : rf_cn (rf_fq N ar md) w = i
        · have := rf_cninj _ h2 hf (by omega)
          subst this
          exact Or.inr h4.symm
        · exact Or.inl (Or.inr ⟨w, h1, h2, h3, h4, by omega, h6⟩)
  · rw [pk_un e, hh q hq j hj]
    constructor
    · rintro (h | ⟨w, h1, h2, h3, h4, h5, h6⟩)
      · exact Or.inl h
      · exact Or.inr ⟨w, h1, h2, h3, h4, by omega, h6⟩
    · rintro (h | ⟨w, h1, h2, h3, h4, h5, h6⟩)
      · exact Or.inl h
      · by_cases e2 : rf_cn (rf_fq N ar md) w = i
        · have := rf_cninj _ h2 hf (by omega)
          subst this
          exact absurd h3.symm e
        · exact Or.inr ⟨w, h1, h2, h3, h4, by omega, h6⟩
theorem rf_hie {N R F : Nat} (hN : N ≤ 4) (hR : R ≤ 4) {ar md rq ex : Nat → Int32} (hb : rf_bd N ar md rq ex) (hF : F = rf_cn (rf_fq N ar md) (R * 16)) {c : Int32} {h : Nat → Int32} (hh : rf_hi N R F ar md rq c F h) : ∀ q, q < R → h q = rf_as N ar md F c q := by
  intro q hq
  apply rf_ext
  intro j hj
  rw [hh q hq j hj, rf_asb N ar md F c q j hj]
  obtain ⟨_, hb⟩ := hb q (by omega)
  obtain ⟨h1, _, _⟩ := hb j hj
  rw [h1]
  unfold rf_on
  rw [Bool.and_eq_true, Bool.and_eq_true, Bool.or_eq_true, Bool.and_eq_true]
  constructor
  · rintro (⟨a, b⟩ | ⟨z, g1, g2, g3, g4, g5, g6⟩)
    · exact ⟨rf_vt16 hN a, a, Or.inl b⟩
    · have ez : z = q * 16 + j := by omega
      subst ez
      rw [rf_fqi N ar md q j (by omega)] at g2
      unfold rf_fr at g2
      rw [Bool.and_eq_true] at g2
      exact ⟨by omega, g2.1, Or.inr ⟨g2.2, g6⟩⟩
  · rintro ⟨a, b, d | ⟨d, e⟩⟩
    · exact Or.inl ⟨b, d⟩
    · have g2 : rf_fq N ar md (q * 16 + j) = true := by
        rw [rf_fqi N ar md q j a]
        unfold rf_fr
        rw [Bool.and_eq_true]
        exact ⟨b, d⟩
      refine Or.inr ⟨q * 16 + j, by omega, g2, by omega, by omega, ?_, e⟩
      rw [hF]
      exact rf_cnlt _ (by omega) g2
