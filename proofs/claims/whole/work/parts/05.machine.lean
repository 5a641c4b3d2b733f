/-! environments, the pure stack machine, typing -/
def rf_dg (v e : Nat) : Nat := e / 4 ^ v % 4
def rf_sd (v e d : Nat) : Nat := e - e / 4 ^ v % 4 * 4 ^ v + d * 4 ^ v
def rf_gd (N e : Nat) : Prop := e % 4 < N ∧ e / 4 % 4 < N ∧ e / 16 % 4 < N
theorem rf_sd0 (e d : Nat) : rf_sd 0 e d = e - e % 4 + d := by
  unfold rf_sd
  rw [Nat.pow_zero, Nat.div_one, Nat.mul_one, Nat.mul_one]
theorem rf_sd1 (e d : Nat) : rf_sd 1 e d = e - e / 4 % 4 * 4 + d * 4 := by
  unfold rf_sd
  rw [Nat.pow_one]
theorem rf_sd2 (e d : Nat) : rf_sd 2 e d = e - e / 16 % 4 * 16 + d * 16 := rfl
theorem rf_sdg {N v e d : Nat} (hN : N ≤ 4) (hv : v < 3) (he : e < 64) (hg : rf_gd N e) (hd : d < N) : rf_gd N (rf_sd v e d) ∧ rf_sd v e d < 64 := by
  obtain ⟨g0, g1, g2⟩ := hg
  have hc : v = 0 ∨ v = 1 ∨ v = 2 := by omega
  unfold rf_gd
  rcases hc with rfl | rfl | rfl
  · rw [rf_sd0]
    omega
  · rw [rf_sd1]
    omega
  · rw [rf_sd2]
    omega
theorem rf_sdE {v e d g : Nat} (hg : g ≤ 3) (hv : v < g) (he : e < 4 ^ g) (hd : d < 4) : rf_sd v e d < 4 ^ g := by
  have hc : (v = 0 ∧ g = 1) ∨ (v = 0 ∧ g = 2) ∨ (v = 0 ∧ g = 3) ∨ (v = 1 ∧ g = 2) ∨ (v = 1 ∧ g = 3) ∨ (v = 2 ∧ g = 3) := by omega
  rcases hc with ⟨rfl, rfl⟩ | ⟨rfl, rfl⟩ | ⟨rfl, rfl⟩ | ⟨rfl, rfl⟩ | ⟨rfl, rfl⟩ | ⟨rfl, rfl⟩
  · rw [rf_sd0]
    have he : e < 4 := he
    show _ < 4
    omega
  · rw [rf_sd0]
    have he : e < 16 := he
    show _ < 16
    omega
  · rw [rf_sd0]
    have he : e < 64 := he
    show _ < 64
    omega
  · rw [rf_sd1]
    have he : e < 16 := he
    show _ < 16
    omega
  · rw [rf_sd1]
    have he : e < 64 := he
    show _ < 64
    omega
  · rw [rf_sd2]
    have he : e < 64 := he
    show _ < 64
    omega
theorem rf_dgN {N v e : Nat} (hv : v < 3) (hg : rf_gd N e) : rf_dg v e < N := by
  obtain ⟨g0, g1, g2⟩ := hg
  have hc : v = 0 ∨ v = 1 ∨ v = 2 := by omega
  rcases hc with rfl | rfl | rfl
  · show e / 1 % 4 < N
    omega
  · show e / 4 % 4 < N
    exact g1
  · show e / 16 % 4 < N
    exact g2
theorem rf_gd0 {N : Nat} (h : 1 ≤ N) : rf_gd N 0 := by
  unfold rf_gd
  omega
def rf_lf (N : Nat) (cur : Nat → Int32) (k a : Int32) (e : Nat) : Int32 :=
  if k = 1 then cur a.toNatClampNeg else if k = 2 then (1 : Int32) <<< (nI (rf_dg a.toNatClampNeg e) &&& 31) else if k = 3 then rf_un N else rf_id N
def rf_nv (N : Nat) (cur : Nat → Int32) (k a lt rt : Int32) (S : Nat → Nat → Int32) (s e : Nat) : Int32 :=
  if rf_pp k = 0 then rf_lf N cur k a e
  else if k = 21 then rf_qa N (fun d => S s (rf_sd a.toNatClampNeg e d))
  else if k = 22 then rf_qe N (fun d => S s (rf_sd a.toNatClampNeg e d))
  else if rf_pp k = 1 then rf_q1 N k (S s e) else rf_q2 N k lt rt (S s e) (S (s + 1) e)
def rf_lt (k : Int32) (ty : Nat → Int32) (h : Nat) : Int32 := if rf_pp k = 2 then ty (h - 2) else 0
def rf_rr (k : Int32) (ty : Nat → Int32) (h : Nat) : Int32 := if rf_pp k = 0 then 0 else ty (h - 1)
def rf_kd (k : Int32) : Prop := ∃ j : Nat, 1 ≤ j ∧ j ≤ 22 ∧ k = nI j
def rf_wf (R : Nat) (ar ty : Nat → Int32) (h : Nat) (k a tt st : Int32) : Prop :=
  rf_kd k ∧ rf_pp k ≤ h ∧ tt = rf_rt k (rf_lt k ty h) (rf_rr k ty h) (ar a.toNatClampNeg) ∧ ¬ tt = -1
  ∧ (k = 1 → ∃ q : Nat, q < R ∧ a = nI q) ∧ (k = 2 ∨ k = 21 ∨ k = 22 → ∃ v : Nat, v < 3 ∧ a = nI v) ∧ st = rf_sp k (rf_lt k ty h) (rf_rr k ty h)
theorem rf_kg {k : Int32} (h : rf_kd k) : (k = 1 ∨ k = 2 ∨ k = 3 ∨ k = 4) ∨ (k = 10 ∨ k = 11 ∨ k = 14 ∨ k = 15 ∨ k = 16 ∨ k = 17) ∨ (k = 5 ∨ k = 6 ∨ k = 7 ∨ k = 8 ∨ k = 9 ∨ k = 12 ∨ k = 13 ∨ k = 18 ∨ k = 19 ∨ k = 20) ∨ k = 21 ∨ k = 22 := by
  obtain ⟨j, h1, h2, rfl⟩ := h
  have hc : j = 1 ∨ j = 2 ∨ j = 3 ∨ j = 4 ∨ j = 5 ∨ j = 6 ∨ j = 7 ∨ j = 8 ∨ j = 9 ∨ j = 10 ∨ j = 11 ∨ j = 12 ∨ j = 13 ∨ j = 14 ∨ j = 15 ∨ j = 16 ∨ j = 17 ∨ j = 18 ∨ j = 19 ∨ j = 20 ∨ j = 21 ∨ j = 22 := by omega
  rcases hc with rfl | rfl | rfl | rfl | rfl | rfl | rfl | rfl | rfl | rfl | rfl | rfl | rfl | rfl | rfl | rfl | rfl | rfl | rfl | rfl | rfl | rfl <;> decide +kernel
theorem rf_pp0 {k : Int32} (h : k = 1 ∨ k = 2 ∨ k = 3 ∨ k = 4) : rf_pp k = 0 := by
  rcases h with rfl | rfl | rfl | rfl <;> decide +kernel
theorem rf_pp1 {k : Int32} (h : k = 10 ∨ k = 11 ∨ k = 14 ∨ k = 15 ∨ k = 16 ∨ k = 17) : rf_pp k = 1 ∧ ¬ k = 21 ∧ ¬ k = 22 := by
  rcases h with rfl | rfl | rfl | rfl | rfl | rfl <;> decide +kernel
theorem rf_pp2 {k : Int32} (h : k = 5 ∨ k = 6 ∨ k = 7 ∨ k = 8 ∨ k = 9 ∨ k = 12 ∨ k = 13 ∨ k = 18 ∨ k = 19 ∨ k = 20) : rf_pp k = 2 ∧ ¬ k = 21 ∧ ¬ k = 22 := by
  rcases h with rfl | rfl | rfl | rfl | rfl | rfl | rfl | rfl | rfl | rfl <;> decide +kernel
theorem rf_pp21 : rf_pp 21 = 1 := by decide +kernel
theorem rf_pp22 : rf_pp 22 = 1 := by decide +kernel
theorem rf_ppk {k : Int32} (h : rf_kd k) : rf_pp k ≤ 2 := by
  unfold rf_pp
  split
  · omega
  · split <;> omega
theorem rf_nv0 {N : Nat} {cur : Nat → Int32} {k a lt rt : Int32} {S : Nat → Nat → Int32} {s e : Nat} (h : rf_pp k = 0) : rf_nv N cur k a lt rt S s e = rf_lf N cur k a e := if_pos h
theorem rf_nv21 {N : Nat} {cur : Nat → Int32} {a lt rt : Int32} {S : Nat → Nat → Int32} {s e : Nat} : rf_nv N cur 21 a lt rt S s e = rf_qa N (fun d => S s (rf_sd a.toNatClampNeg e d)) := by
  unfold rf_nv
  rw [if_neg (by decide +kernel), if_pos rfl]
theorem rf_nv22 {N : Nat} {cur : Nat → Int32} {a lt rt : Int32} {S : Nat → Nat → Int32} {s e : Nat} : rf_nv N cur 22 a lt rt S s e = rf_qe N (fun d => S s (rf_sd a.toNatClampNeg e d)) := by
  unfold rf_nv
  rw [if_neg (by decide +kernel), if_neg (by decide +kernel), if_pos rfl]
theorem rf_nv1 {N : Nat} {cur : Nat → Int32} {k a lt rt : Int32} {S : Nat → Nat → Int32} {s e : Nat} (h : rf_pp k = 1 ∧ ¬ k = 21 ∧ ¬ k = 22) : rf_nv N cur k a lt rt S s e = rf_q1 N k (S s e) := by
  unfold rf_nv
  rw [if_neg (by omega), if_neg h.2.1, if_neg h.2.2, if_pos h.1]
theorem rf_nv2 {N : Nat} {cur : Nat → Int32} {k a lt rt : Int32} {S : Nat → Nat → Int32} {s e : Nat} (h : rf_pp k = 2 ∧ ¬ k = 21 ∧ ¬ k = 22) : rf_nv N cur k a lt rt S s e = rf_q2 N k lt rt (S s e) (S (s + 1) e) := by
  unfold rf_nv
  rw [if_neg (by omega), if_neg h.2.1, if_neg h.2.2, if_neg (by omega)]
/-- a stack that is typed at the good environments -/
def rf_St (N h : Nat) (ty : Nat → Int32) (S : Nat → Nat → Int32) : Prop := ∀ s, s < h → ∀ e, e < 64 → rf_gd N e → rf_ok N (ty s) (S s e)
theorem rf_t1 {N R h : Nat} (hN : N ≤ 4) {ar ty : Nat → Int32} {S : Nat → Nat → Int32} {k a tt st : Int32} (hw : rf_wf R ar ty h k a tt st) (hS : rf_St N h ty S) (hk : k = 10 ∨ k = 11 ∨ k = 14 ∨ k = 15 ∨ k = 16 ∨ k = 17) {e : Nat} (he : e < 64) (hg : rf_gd N e) :
    rf_x1 st (S (h - 1) e) = rf_q1 N k (S (h - 1) e) ∧ rf_ok N tt (rf_q1 N k (S (h - 1) e)) := by
  obtain ⟨_, hp, ht, hn, _, _, hs⟩ := hw
  have hq := rf_pp1 hk
  have hr : rf_rr k ty h = ty (h - 1) := by
    unfold rf_rr
    rw [if_neg (by omega)]
  have hst : st = k := by
    rw [hs]
    rcases hk with rfl | rfl | rfl | rfl | rfl | rfl <;> rfl
  rw [hr] at ht
  rw [hst]
  exact rf_e1 hN k _ _ _ _ _ hk ht hn (hS (h - 1) (by omega) e he hg)
theorem rf_t2 {N R h : Nat} (hN : N ≤ 4) {ar ty : Nat → Int32} {S : Nat → Nat → Int32} {k a tt st : Int32} (hw : rf_wf R ar ty h k a tt st) (hS : rf_St N h ty S) (hk : k = 5 ∨ k = 6 ∨ k = 7 ∨ k = 8 ∨ k = 9 ∨ k = 12 ∨ k = 13 ∨ k = 18 ∨ k = 19 ∨ k = 20) {e : Nat} (he : e < 64) (hg : rf_gd N e) :
    rf_x2 st (S (h - 2) e) (S (h - 2 + 1) e) = rf_q2 N k (rf_lt k ty h) (rf_rr k ty h) (S (h - 2) e) (S (h - 2 + 1) e) ∧ rf_ok N tt (rf_q2 N k (rf_lt k ty h) (rf_rr k ty h) (S (h - 2) e) (S (h - 2 + 1) e)) := by
  obtain ⟨_, hp, ht, hn, _, _, hs⟩ := hw
  have hq := rf_pp2 hk
  have hr : rf_rr k ty h = ty (h - 1) := by
    unfold rf_rr
    rw [if_neg (by omega)]
  have hl : rf_lt k ty h = ty (h - 2) := by
    unfold rf_lt
    rw [if_pos (by omega)]
  have e1 : h - 2 + 1 = h - 1 := by omega
  rw [hs]
  rw [hr, hl] at ht ⊢
  rw [e1]
  exact rf_e2 hN k _ _ _ _ _ _ hk ht hn (hS (h - 2) (by omega) e he hg) (hS (h - 1) (by omega) e he hg)
theorem rf_rtq (lt rt ra : Int32) : rf_rt 21 lt rt ra = (if rt = 0 then 0 else -1) ∧ rf_rt 22 lt rt ra = (if rt = 0 then 0 else -1) := ⟨rfl, rfl⟩
theorem rf_tq {N R h : Nat} (h1 : 1 ≤ N) (hN : N ≤ 4) {ar ty : Nat → Int32} {S : Nat → Nat → Int32} {k a tt st : Int32} (hw : rf_wf R ar ty h k a tt st) (hS : rf_St N h ty S) (hk : k = 21 ∨ k = 22) {e : Nat} (he : e < 64) (hg : rf_gd N e) :
    ∃ v, v < 3 ∧ a = nI v ∧ tt = 0 ∧ (∀ d, d < N → S (h - 1) (rf_sd v e d) = 0 ∨ S (h - 1) (rf_sd v e d) = 1) := by
  obtain ⟨_, hp, ht, hn, _, hv, hs⟩ := hw
  obtain ⟨v, hv, ea⟩ := hv (Or.inr hk)
  have hq : rf_pp k = 1 := by rcases hk with rfl | rfl <;> decide +kernel
  have hr : rf_rr k ty h = ty (h - 1) := by
    unfold rf_rr
    rw [if_neg (by omega)]
  rw [hr] at ht
  have ht' : tt = if ty (h - 1) = 0 then 0 else -1 := by
    rcases hk with rfl | rfl
    · exact ht
    · exact ht
  by_cases h0 : ty (h - 1) = 0
  · rw [if_pos h0] at ht'
    refine ⟨v, hv, ea, ht', ?_⟩
    intro d hd
    have q := rf_sdg hN hv he hg hd
    exact rf_ok0 (hS (h - 1) (by omega) _ q.2 q.1) h0
  · rw [if_neg h0] at ht'
    exact absurd ht' hn
theorem rf_nvok {N R h : Nat} (h1 : 1 ≤ N) (hN : N ≤ 4) (hR : R ≤ 4) {ar ty cur : Nat → Int32} {S : Nat → Nat → Int32} {k a tt st : Int32} (hw : rf_wf R ar ty h k a tt st) (hc : ∀ q, q < R → rf_ok N (ar q) (cur q)) (hS : rf_St N h ty S) {e : Nat} (he : e < 64) (hg : rf_gd N e) :
    rf_ok N tt (rf_nv N cur k a (rf_lt k ty h) (rf_rr k ty h) S (h - rf_pp k) e) := by
  rcases rf_kg hw.1 with hk | hk | hk | hk
  · rw [rf_nv0 (rf_pp0 hk)]
    obtain ⟨_, hp, ht, hn, hr, hv, hs⟩ := hw
    rcases hk with rfl | rfl | rfl | rfl
    · obtain ⟨q, hq, rfl⟩ := hr rfl
      have ec : (nI q).toNatClampNeg = q := nI_clamp (by omega)
      have ht' : tt = ar (nI q).toNatClampNeg := ht
      show rf_ok N tt (cur (nI q).toNatClampNeg)
      rw [ht', ec]
      exact hc q hq
    · obtain ⟨v, hv3, rfl⟩ := hv (Or.inl rfl)
      have ec : (nI v).toNatClampNeg = v := nI_clamp (by omega)
      have ht' : tt = 1 := ht
      show rf_ok N tt ((1 : Int32) <<< (nI (rf_dg (nI v).toNatClampNeg e) &&& 31))
      rw [ht', ec]
      exact Or.inr (Or.inl ⟨rfl, rf_sbV (rf_dgN hv3 hg) hN⟩)
    · have ht' : tt = 1 := ht
      rw [ht']
      exact Or.inr (Or.inl ⟨rfl, rf_unV hN⟩)
    · have ht' : tt = 2 := ht
      rw [ht']
      exact Or.inr (Or.inr ⟨rfl, rf_idV hN⟩)
  · rw [rf_nv1 (rf_pp1 hk), (rf_pp1 hk).1]
    exact (rf_t1 hN hw hS hk he hg).2
  · rw [rf_nv2 (rf_pp2 hk), (rf_pp2 hk).1]
    exact (rf_t2 hN hw hS hk he hg).2
  · obtain ⟨v, hv, rfl, rfl, hz⟩ := rf_tq h1 hN hw hS hk he hg
    have ec : (nI v).toNatClampNeg = v := nI_clamp (by omega)
    rcases hk with rfl | rfl
    · rw [rf_nv21, ec, rf_pp21]
      exact Or.inl ⟨rfl, (rf_qaS h1 hN _ hz).2.2.1⟩
    · rw [rf_nv22, ec, rf_pp22]
      exact Or.inl ⟨rfl, (rf_qaS h1 hN _ hz).2.2.2⟩
/-! the run over the tokens -/
def rf_hg (tk : Nat → Int32) : Nat → Nat
  | 0 => 0
  | i + 1 => rf_hg tk i - rf_pp (tk i) + 1
def rf_ty (tk tt : Nat → Int32) : Nat → Nat → Int32
  | 0 => fun _ => 0
  | i + 1 => upd (rf_ty tk tt i) (rf_hg tk i - rf_pp (tk i)) (tt i)
def rf_ps (N : Nat) (cur tk ta tt : Nat → Int32) : Nat → Nat → Nat → Int32
  | 0 => fun _ _ => 0
  | i + 1 => fun s e => if s = rf_hg tk i - rf_pp (tk i) then rf_nv N cur (tk i) (ta i) (rf_lt (tk i) (rf_ty tk tt i) (rf_hg tk i)) (rf_rr (tk i) (rf_ty tk tt i) (rf_hg tk i)) (rf_ps N cur tk ta tt i) s e else rf_ps N cur tk ta tt i s e
def rf_WF (R : Nat) (ar tk ta tt st : Nat → Int32) (T : Nat) : Prop := ∀ i, i < T → rf_wf R ar (rf_ty tk tt i) (rf_hg tk i) (tk i) (ta i) (tt i) (st i)
theorem rf_hgi (tk : Nat → Int32) : ∀ i, rf_hg tk i ≤ i := by
  intro i
  induction i with
  | zero => exact Nat.le_refl 0
  | succ i ih =>
    show rf_hg tk i - rf_pp (tk i) + 1 ≤ i + 1
    omega
theorem rf_psok {N R T : Nat} (h1 : 1 ≤ N) (hN : N ≤ 4) (hR : R ≤ 4) {ar tk ta tt st cur : Nat → Int32} (hw : rf_WF R ar tk ta tt st T) (hc : ∀ q, q < R → rf_ok N (ar q) (cur q)) : ∀ i, i ≤ T → rf_St N (rf_hg tk i) (rf_ty tk tt i) (rf_ps N cur tk ta tt i) := by
  intro i
  induction i with
  | zero => exact fun _ s hs => absurd hs (Nat.not_lt_zero s)
  | succ i ih =>
    intro hi s hs e he hg
    have ih := ih (by omega)
    have w := hw i (by omega)
    show rf_ok N (upd (rf_ty tk tt i) (rf_hg tk i - rf_pp (tk i)) (tt i) s) (if s = rf_hg tk i - rf_pp (tk i) then _ else _)
    by_cases hse : s = rf_hg tk i - rf_pp (tk i)
    · rw [if_pos hse, hse, pk_us]
      exact rf_nvok h1 hN hR w hc ih he hg
    · rw [if_neg hse, pk_un hse]
      have hs' : s < rf_hg tk i - rf_pp (tk i) + 1 := hs
      exact ih s (by omega) e he hg
