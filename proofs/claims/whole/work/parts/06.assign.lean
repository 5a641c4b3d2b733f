/-! tuples, counting, assignments -/
def rf_vt (N : Nat) (r : Int32) (i : Nat) : Bool := if r = 1 then decide (i < N) else decide (i < 16 ∧ i / 4 < N ∧ i % 4 < N)
def rf_tc (r : Int32) (i : Nat) : Nat := if r = 1 then i * 4 else i
def rf_fr (N : Nat) (ar md : Nat → Int32) (q i : Nat) : Bool := rf_vt N (ar q) i && decide (md (q * 16 + rf_tc (ar q) i) = 0)
def rf_fq (N : Nat) (ar md : Nat → Int32) (y : Nat) : Bool := rf_fr N ar md (y / 16) (y % 16)
def rf_cn (f : Nat → Bool) : Nat → Nat
  | 0 => 0
  | n + 1 => rf_cn f n + (if f n = true then 1 else 0)
theorem rf_cns (f : Nat → Bool) (n : Nat) : rf_cn f (n + 1) = rf_cn f n + (if f n = true then 1 else 0) := rfl
theorem rf_cnt {f : Nat → Bool} {n : Nat} (h : f n = true) : rf_cn f (n + 1) = rf_cn f n + 1 := by rw [rf_cns, if_pos h]
theorem rf_cnf {f : Nat → Bool} {n : Nat} (h : ¬ f n = true) : rf_cn f (n + 1) = rf_cn f n := by rw [rf_cns, if_neg h, Nat.add_zero]
theorem rf_cnle (f : Nat → Bool) : ∀ n, rf_cn f n ≤ n := by
  intro n
  induction n with
  | zero => exact Nat.le_refl 0
  | succ n ih =>
    rw [rf_cns]
    split <;> omega
theorem rf_cnm (f : Nat → Bool) : ∀ d n, rf_cn f n ≤ rf_cn f (n + d) := by
  intro d
  induction d with
  | zero => exact fun n => Nat.le_refl _
  | succ d ih =>
    intro n
    have := ih n
    rw [← Nat.add_assoc, rf_cns]
    omega
theorem rf_cnlt (f : Nat → Bool) {a b : Nat} (h : a < b) (ha : f a = true) : rf_cn f a < rf_cn f b := by
  have h1 := rf_cnt ha
  have h2 := rf_cnm f (b - (a + 1)) (a + 1)
  rw [show a + 1 + (b - (a + 1)) = b by omega] at h2
  omega
theorem rf_cninj (f : Nat → Bool) {a b : Nat} (ha : f a = true) (hb : f b = true) (e : rf_cn f a = rf_cn f b) : a = b := by
  rcases Nat.lt_trichotomy a b with h | h | h
  · have := rf_cnlt f h ha
    omega
  · exact h
  · have := rf_cnlt f h hb
    omega
theorem rf_cnc (f g : Nat → Bool) : ∀ n, (∀ i, i < n → f i = g i) → rf_cn f n = rf_cn g n := by
  intro n
  induction n with
  | zero => exact fun _ => rfl
  | succ n ih =>
    intro h
    rw [rf_cns, rf_cns, ih (fun i hi => h i (by omega)), h n (by omega)]
theorem rf_cnz (f : Nat → Bool) (n : Nat) : ∀ d, (∀ i, n ≤ i → i < n + d → ¬ f i = true) → rf_cn f (n + d) = rf_cn f n := by
  intro d
  induction d with
  | zero => exact fun _ => rfl
  | succ d ih =>
    intro h
    rw [← Nat.add_assoc, rf_cnf (h (n + d) (by omega) (by omega))]
    exact ih (fun i h1 h2 => h i h1 (by omega))
theorem rf_cnq (f : Nat → Bool) (g : Nat → Bool) (b : Nat) : ∀ n, (∀ i, i < n → f (b + i) = g i) → rf_cn f (b + n) = rf_cn f b + rf_cn g n := by
  intro n
  induction n with
  | zero => exact fun _ => rfl
  | succ n ih =>
    intro h
    rw [← Nat.add_assoc, rf_cns, rf_cns, ih (fun i hi => h i (by omega)), h n (by omega)]
    omega
theorem rf_fqi (N : Nat) (ar md : Nat → Int32) (q i : Nat) (hi : i < 16) : rf_fq N ar md (q * 16 + i) = rf_fr N ar md q i := by
  unfold rf_fq
  rw [show (q * 16 + i) / 16 = q by omega, show (q * 16 + i) % 16 = i by omega]
theorem rf_cq (N : Nat) (ar md : Nat → Int32) (q n : Nat) (hn : n ≤ 16) : rf_cn (rf_fq N ar md) (q * 16 + n) = rf_cn (rf_fq N ar md) (q * 16) + rf_cn (rf_fr N ar md q) n :=
  rf_cnq _ _ _ n (fun i hi => rf_fqi N ar md q i (by omega))
theorem rf_vt1 {N i : Nat} {r : Int32} (h : r = 1) : rf_vt N r i = true ↔ i < N := by
  unfold rf_vt
  rw [if_pos h, decide_eq_true_eq]
theorem rf_vt2 {N i : Nat} {r : Int32} (h : ¬ r = 1) : rf_vt N r i = true ↔ i < 16 ∧ i / 4 < N ∧ i % 4 < N := by
  unfold rf_vt
  rw [if_neg h, decide_eq_true_eq]
theorem rf_vt16 {N i : Nat} {r : Int32} (hN : N ≤ 4) (h : rf_vt N r i = true) : i < 16 := by
  by_cases hr : r = 1
  · have := (rf_vt1 hr).mp h
    omega
  · exact ((rf_vt2 hr).mp h).1
/-! Y's order of cells against bits: rho r t bits lie before cell t -/
def rf_rh (r : Int32) (t : Nat) : Nat := if r = 1 then (t + 3) / 4 else t
def rf_fy (N : Nat) (ar md : Nat → Int32) (q t : Nat) : Bool := (if ar q = 1 then decide (t / 4 < N ∧ t % 4 = 0) else decide (t / 4 < N ∧ t % 4 < N)) && decide (md (q * 16 + t) = 0)
def rf_va (N : Nat) (r : Int32) (t : Nat) : Bool := if r = 1 then decide (t / 4 < N ∧ t % 4 = 0) else decide (t / 4 < N ∧ t % 4 < N)
/-- a valid cell t < 16: the bit of t is rho t, and rho goes up by one -/
theorem rf_rhv {N : Nat} (hN : N ≤ 4) {r : Int32} {t : Nat} (ht : t < 16) (h : rf_va N r t = true) : rf_rh r (t + 1) = rf_rh r t + 1 ∧ rf_tc r (rf_rh r t) = t ∧ rf_vt N r (rf_rh r t) = true ∧ rf_rh r t < 16 ∧ rf_rh r t = (if r = 1 then t / 4 else t) := by
  unfold rf_va at h
  by_cases hr : r = 1
  · rw [if_pos hr, decide_eq_true_eq] at h
    rw [rf_vt1 hr]
    unfold rf_rh rf_tc
    rw [if_pos hr, if_pos hr, if_pos hr, if_pos hr]
    omega
  · rw [if_neg hr, decide_eq_true_eq] at h
    rw [rf_vt2 hr]
    unfold rf_rh rf_tc
    rw [if_neg hr, if_neg hr, if_neg hr, if_neg hr]
    omega
/-- at a cell that is not valid: rho stays, or the bit is not valid -/
theorem rf_rhn {N : Nat} {r : Int32} {t : Nat} (ht : t < 16) (h : ¬ rf_va N r t = true) : rf_rh r (t + 1) = rf_rh r t ∨ (rf_rh r (t + 1) = rf_rh r t + 1 ∧ ¬ rf_vt N r (rf_rh r t) = true ∧ rf_rh r t < 16) := by
  unfold rf_va at h
  by_cases hr : r = 1
  · rw [if_pos hr, decide_eq_true_eq] at h
    rw [rf_vt1 hr]
    unfold rf_rh
    rw [if_pos hr, if_pos hr]
    omega
  · rw [if_neg hr, decide_eq_true_eq] at h
    rw [rf_vt2 hr]
    unfold rf_rh
    rw [if_neg hr, if_neg hr]
    omega
theorem rf_rh0 (r : Int32) : rf_rh r 0 = 0 := by
  unfold rf_rh
  split <;> rfl
theorem rf_rh16 (r : Int32) : rf_rh r 16 ≤ 16 ∧ (rf_rh r 16 = 16 ∨ (r = 1 ∧ rf_rh r 16 = 4)) := by
  unfold rf_rh
  by_cases hr : r = 1
  · rw [if_pos hr]
    exact ⟨by decide, Or.inr ⟨hr, rfl⟩⟩
  · rw [if_neg hr]
    exact ⟨by decide, Or.inl rfl⟩
theorem rf_rhle (r : Int32) (t : Nat) (ht : t ≤ 16) : rf_rh r t ≤ 16 := by
  unfold rf_rh
  split <;> omega
/-- the count before a cell of Y -/
def rf_ct (N : Nat) (ar md : Nat → Int32) (q t : Nat) : Nat := rf_cn (rf_fq N ar md) (q * 16 + rf_rh (ar q) t)
theorem rf_ctv {N : Nat} (hN : N ≤ 4) (ar md : Nat → Int32) (q : Nat) {t : Nat} (ht : t < 16) (h : rf_va N (ar q) t = true) : rf_ct N ar md q (t + 1) = rf_ct N ar md q t + (if md (q * 16 + t) = 0 then 1 else 0) := by
  obtain ⟨h1, h2, h3, h4, _⟩ := rf_rhv hN ht h
  unfold rf_ct
  rw [h1, ← Nat.add_assoc, rf_cns, rf_fqi N ar md q _ h4]
  unfold rf_fr
  rw [h3, h2, Bool.true_and]
  by_cases hm : md (q * 16 + t) = 0
  · rw [if_pos hm, if_pos (decide_eq_true hm)]
  · rw [if_neg hm, if_neg (by rw [decide_eq_true_eq]; exact hm)]
theorem rf_ctn {N : Nat} (ar md : Nat → Int32) (q : Nat) {t : Nat} (ht : t < 16) (h : ¬ rf_va N (ar q) t = true) : rf_ct N ar md q (t + 1) = rf_ct N ar md q t := by
  unfold rf_ct
  rcases rf_rhn ht h with e | ⟨e, h2, h3⟩
  · rw [e]
  · rw [e, ← Nat.add_assoc]
    apply rf_cnf
    rw [rf_fqi N ar md q _ h3]
    unfold rf_fr
    intro z
    rw [Bool.and_eq_true] at z
    exact h2 z.1
theorem rf_ct0 (N : Nat) (ar md : Nat → Int32) (q : Nat) : rf_ct N ar md q 0 = rf_cn (rf_fq N ar md) (q * 16) := by
  unfold rf_ct
  rw [rf_rh0, Nat.add_zero]
theorem rf_ct16 {N : Nat} (hN : N ≤ 4) (ar md : Nat → Int32) (q : Nat) : rf_ct N ar md q 16 = rf_cn (rf_fq N ar md) ((q + 1) * 16) := by
  unfold rf_ct
  rw [show (q + 1) * 16 = q * 16 + 16 by omega]
  rcases (rf_rh16 (ar q)).2 with e | ⟨hr, e⟩
  · rw [e]
  · rw [e]
    refine (rf_cnz _ (q * 16 + 4) 12 ?_).symm
    intro i h1 h2 h3
    rw [show i = q * 16 + (i - q * 16) by omega, rf_fqi N ar md q _ (by omega)] at h3
    unfold rf_fr at h3
    rw [Bool.and_eq_true, rf_vt1 hr] at h3
    omega
/-! assignments -/
def rf_on (N : Nat) (ar md : Nat → Int32) (F : Nat) (c : Int32) (q i : Nat) : Bool := rf_vt N (ar q) i && (decide (md (q * 16 + rf_tc (ar q) i) = 1) || (decide (md (q * 16 + rf_tc (ar q) i) = 0) && bt c (F - 1 - rf_cn (rf_fq N ar md) (q * 16 + i))))
def rf_ap (N : Nat) (ar md : Nat → Int32) (F : Nat) (c : Int32) (q : Nat) : Nat → Int32 := rf_o1 0 (fun i => if rf_on N ar md F c q i = true then (1 : Int32) <<< (nI i &&& 31) else 0)
def rf_as (N : Nat) (ar md : Nat → Int32) (F : Nat) (c : Int32) (q : Nat) : Int32 := rf_ap N ar md F c q 16
theorem rf_asb (N : Nat) (ar md : Nat → Int32) (F : Nat) (c : Int32) (q j : Nat) (hj : j < 32) : bt (rf_as N ar md F c q) j = true ↔ j < 16 ∧ rf_on N ar md F c q j = true := by
  unfold rf_as rf_ap
  rw [rf_o1b]
  constructor
  · rintro (h | ⟨i, hi, h⟩)
    · exact (rf_no0 h).elim
    · obtain ⟨h1, h⟩ := (rf_ifb _ j).mp h
      have e := (rf_sb i (by omega) j hj).mp h
      subst e
      exact ⟨hi, h1⟩
  · rintro ⟨h, h1⟩
    exact Or.inr ⟨j, h, (rf_ifb _ j).mpr ⟨h1, (rf_sb j (by omega) j hj).mpr rfl⟩⟩
theorem rf_onv {N : Nat} {ar md : Nat → Int32} {F : Nat} {c : Int32} {q i : Nat} (h : rf_on N ar md F c q i = true) : rf_vt N (ar q) i = true := by
  unfold rf_on at h
  rw [Bool.and_eq_true] at h
  exact h.1
theorem rf_asok (N : Nat) (ar md : Nat → Int32) (F : Nat) (c : Int32) (q : Nat) (hr : ar q = 1 ∨ ar q = 2) : rf_ok N (ar q) (rf_as N ar md F c q) := by
  rcases hr with e | e
  · refine Or.inr (Or.inl ⟨e, fun i hi h => ?_⟩)
    exact (rf_vt1 e).mp (rf_onv ((rf_asb N ar md F c q i hi).mp h).2)
  · refine Or.inr (Or.inr ⟨e, fun i hi h => ?_⟩)
    exact (rf_vt2 (by rw [e]; decide)).mp (rf_onv ((rf_asb N ar md F c q i hi).mp h).2)
theorem rf_ap16 {N : Nat} (hN : N ≤ 4) (ar md : Nat → Int32) (F : Nat) (c : Int32) (q : Nat) : rf_ap N ar md F c q (rf_rh (ar q) 16) = rf_as N ar md F c q := by
  rcases (rf_rh16 (ar q)).2 with e | ⟨hr, e⟩
  · rw [e]
    rfl
  · rw [e]
    apply rf_ext
    intro j hj
    unfold rf_as rf_ap
    rw [rf_o1b, rf_o1b]
    constructor
    · rintro (h | ⟨i, hi, h⟩)
      · exact Or.inl h
      · exact Or.inr ⟨i, by omega, h⟩
    · rintro (h | ⟨i, hi, h⟩)
      · exact Or.inl h
      · have h1 := rf_onv ((rf_ifb _ j).mp h).1
        rw [rf_vt1 hr] at h1
        exact Or.inr ⟨i, by omega, h⟩
/-! the bounds of both sides -/
def rf_bd (N : Nat) (ar md rq ex : Nat → Int32) : Prop := ∀ q, q < 4 → (ar q = 1 ∨ ar q = 2) ∧ ∀ i, i < 32 →
  bt (rq q) i = (rf_vt N (ar q) i && decide (md (q * 16 + rf_tc (ar q) i) = 1))
  ∧ bt (ex q) i = (rf_vt N (ar q) i && decide (md (q * 16 + rf_tc (ar q) i) = 2))
  ∧ (rf_vt N (ar q) i = true → md (q * 16 + rf_tc (ar q) i) = 0 ∨ md (q * 16 + rf_tc (ar q) i) = 1 ∨ md (q * 16 + rf_tc (ar q) i) = 2)
/-- X's mask of the free tuples -/
def rf_ft (N : Nat) (r q x : Int32) : Int32 := ((if r = 1 then rf_un N else rf_pr (rf_un N) (rf_un N)) &&& (q ^^^ (-1))) &&& (x ^^^ (-1))
theorem rf_tup {N : Nat} (hN : N ≤ 4) (r : Int32) (i : Nat) (hi : i < 32) : bt (if r = 1 then rf_un N else rf_pr (rf_un N) (rf_un N)) i = rf_vt N r i := by
  apply Bool.eq_iff_iff.mpr
  by_cases hr : r = 1
  · rw [if_pos hr, rf_vt1 hr, rf_unb N (by omega) i hi, decide_eq_true_eq]
  · rw [if_neg hr, rf_vt2 hr, rf_prb hN _ _ (rf_unV hN) i hi]
    constructor
    · rintro ⟨h1, h2, h3⟩
      rw [rf_unb N (by omega) _ (by omega), decide_eq_true_eq] at h2 h3
      exact ⟨h1, h2, h3⟩
    · rintro ⟨h1, h2, h3⟩
      rw [rf_unb N (by omega) _ (by omega), rf_unb N (by omega) _ (by omega), decide_eq_true_eq, decide_eq_true_eq]
      exact ⟨h1, h2, h3⟩
theorem rf_ftb {N : Nat} (hN : N ≤ 4) {ar md rq ex : Nat → Int32} (hb : rf_bd N ar md rq ex) {q : Nat} (hq : q < 4) (i : Nat) (hi : i < 32) : bt (rf_ft N (ar q) (rq q) (ex q)) i = rf_fr N ar md q i := by
  obtain ⟨_, h⟩ := hb q hq
  obtain ⟨h1, h2, h3⟩ := h i hi
  unfold rf_ft rf_fr
  rw [b_and, b_and, b_xor, b_xor, b_m1 i hi, rf_tup hN (ar q) i hi, h1, h2]
  cases hv : rf_vt N (ar q) i with
  | false => rfl
  | true =>
    rcases h3 hv with e | e | e
    · rw [e]
      decide +kernel
    · rw [e]
      decide +kernel
    · rw [e]
      decide +kernel
