/-! values held by an array of blocks of 64 against the pure stack -/
def rf_ag (N E h : Nat) (v : Nat → Int32) (S : Nat → Nat → Int32) : Prop := ∀ s, s < h → ∀ e, e < E → rf_gd N e → v (s * 64 + e) = S s e
theorem rf_agp {N E h s : Nat} {v v' : Nat → Int32} {S nv : Nat → Nat → Int32} (hE : E ≤ 64) (hA : rf_ag N E h v S) (hs : s ≤ h) (ho : ∀ j, j < s * 64 → v' j = v j) (hn : ∀ e, e < E → rf_gd N e → v' (s * 64 + e) = nv s e) : rf_ag N E (s + 1) v' (fun t e => if t = s then nv t e else S t e) := by
  intro t ht e he hg
  show v' (t * 64 + e) = if t = s then nv t e else S t e
  by_cases h : t = s
  · rw [if_pos h, h]
    exact hn e he hg
  · rw [if_neg h, ho _ (by omega)]
    exact hA t (by omega) e he hg
/-- X's new value at an environment, but for quantifiers -/
def rf_gx (N : Nat) (hd : Nat → Int32) (st a : Int32) (p : Nat) (v : Nat → Int32) (c e : Nat) : Int32 :=
  if p = 0 then rf_lf N hd st a e else if p = 1 then rf_x1 st (v (c + e)) else rf_x2 st (v (c + e)) (v (c + e + 64))
/-- Y's new value at an environment, but for quantifiers -/
def rf_gy (N : Nat) (cr : Nat → Int32) (k a lt rt : Int32) (p : Nat) (v : Nat → Int32) (c e : Nat) : Int32 :=
  if p = 0 then rf_lf N cr k a e else if p = 1 then rf_q1 N k (v (c + e)) else rf_q2 N k lt rt (v (c + e)) (v (c + e + 64))
theorem rf_lfc {N R : Nat} (hR : R ≤ 4) {hd cur : Nat → Int32} {k a : Int32} (he : ∀ q, q < R → hd q = cur q) (hr : k = 1 → ∃ q : Nat, q < R ∧ a = nI q) (e : Nat) : rf_lf N hd k a e = rf_lf N cur k a e := by
  unfold rf_lf
  by_cases h : k = 1
  · obtain ⟨q, hq, rfl⟩ := hr h
    rw [if_pos h, if_pos h, nI_clamp (show q < 2 ^ 31 by omega)]
    exact he q hq
  · rw [if_neg h, if_neg h]
theorem rf_sp0 {k lt rt : Int32} (h : ¬ k = 8) : rf_sp k lt rt = k := if_neg h
theorem rf_xag {N R E h : Nat} (hN : N ≤ 4) (hR : R ≤ 4) (hE : E ≤ 64) {ar ty cur hd v : Nat → Int32} {S : Nat → Nat → Int32} {k a tt st : Int32} (hw : rf_wf R ar ty h k a tt st) (hq : ¬ (k = 21 ∨ k = 22)) (hS : rf_St N h ty S) (he : ∀ q, q < R → hd q = cur q) (hA : rf_ag N E h v S) :
    ∀ e, e < E → rf_gd N e → rf_gx N hd st a (rf_pp k) v ((h - rf_pp k) * 64) e = rf_nv N cur k a (rf_lt k ty h) (rf_rr k ty h) S (h - rf_pp k) e := by
  intro e hE' hg
  have hp := hw.2.1
  rcases rf_kg hw.1 with hk | hk | hk | hk
  · have hp0 := rf_pp0 hk
    have hst : st = k := by
      rw [hw.2.2.2.2.2.2]
      rcases hk with rfl | rfl | rfl | rfl <;> rfl
    unfold rf_gx
    rw [rf_nv0 hp0, if_pos hp0, hst]
    exact rf_lfc hR he hw.2.2.2.2.1 e
  · have hp1 := rf_pp1 hk
    unfold rf_gx
    rw [rf_nv1 hp1, if_neg (by omega), if_pos hp1.1, hp1.1, hA (h - 1) (by omega) e hE' hg]
    exact (rf_t1 hN hw hS hk (by omega) hg).1
  · have hp2 := rf_pp2 hk
    unfold rf_gx
    rw [rf_nv2 hp2, if_neg (by omega), if_neg (by omega), hp2.1, show (h - 2) * 64 + e + 64 = (h - 2 + 1) * 64 + e by omega, hA (h - 2) (by omega) e hE' hg, hA (h - 2 + 1) (by omega) e hE' hg]
    exact (rf_t2 hN hw hS hk (by omega) hg).1
  · exact absurd hk hq
theorem rf_yag {N R h : Nat} (hR : R ≤ 4) {ar ty cur cr v : Nat → Int32} {S : Nat → Nat → Int32} {k a tt st : Int32} (hw : rf_wf R ar ty h k a tt st) (hq : ¬ (k = 21 ∨ k = 22)) (he : ∀ q, q < R → cr q = cur q) (hA : rf_ag N 64 h v S) :
    ∀ e, e < 64 → rf_gd N e → rf_gy N cr k a (rf_lt k ty h) (rf_rr k ty h) (rf_pp k) v ((h - rf_pp k) * 64) e = rf_nv N cur k a (rf_lt k ty h) (rf_rr k ty h) S (h - rf_pp k) e := by
  intro e hE' hg
  have hp := hw.2.1
  rcases rf_kg hw.1 with hk | hk | hk | hk
  · have hp0 := rf_pp0 hk
    unfold rf_gy
    rw [rf_nv0 hp0, if_pos hp0]
    exact rf_lfc hR he hw.2.2.2.2.1 e
  · have hp1 := rf_pp1 hk
    unfold rf_gy
    rw [rf_nv1 hp1, if_neg (by omega), if_pos hp1.1, hp1.1, hA (h - 1) (by omega) e hE' hg]
  · have hp2 := rf_pp2 hk
    unfold rf_gy
    rw [rf_nv2 hp2, if_neg (by omega), if_neg (by omega), hp2.1, show (h - 2) * 64 + e + 64 = (h - 2 + 1) * 64 + e by omega, hA (h - 2) (by omega) e hE' hg, hA (h - 2 + 1) (by omega) e hE' hg]
  · exact absurd hk hq
/-! X's quantifier: groups of environments -/
def rf_rs (N : Nat) (k : Int32) (v c : Nat) (v0 : Nat → Int32) (b : Nat) : Int32 := if (if k = 21 then nI N else 1) ≤ rf_sm N (fun a => v0 (c + b + a * 4 ^ v)) then 1 else 0
def rf_qi (N : Nat) (k : Int32) (v c : Nat) (v0 : Nat → Int32) (env : Nat) (w : Nat → Int32) : Prop :=
  (∀ j, j < c ∨ c + 64 ≤ j → w j = v0 j) ∧ ∀ e, e < 64 → w (c + e) = if rf_dg v e < N ∧ rf_sd v e 0 < env then rf_rs N k v c v0 (rf_sd v e 0) else v0 (c + e)
def rf_qj (N : Nat) (k : Int32) (v c : Nat) (v0 : Nat → Int32) (env a : Nat) (w : Nat → Int32) : Prop :=
  (∀ j, j < c ∨ c + 64 ≤ j → w j = v0 j) ∧ ∀ e, e < 64 → w (c + e) = if (rf_dg v e < N ∧ rf_sd v e 0 < env) ∨ (rf_sd v e 0 = env ∧ rf_dg v e < a) then rf_rs N k v c v0 (rf_sd v e 0) else v0 (c + e)
theorem rf_ifc {p q : Prop} [Decidable p] [Decidable q] (x y : Int32) (h : p ↔ q) : (if p then x else y) = if q then x else y := by
  by_cases hp : p
  · rw [if_pos hp, if_pos (h.mp hp)]
  · rw [if_neg hp, if_neg (fun z => hp (h.mpr z))]
theorem rf_qi0 (N : Nat) (k : Int32) (v c : Nat) (v0 : Nat → Int32) : rf_qi N k v c v0 0 v0 := ⟨fun _ _ => rfl, fun e _ => by rw [if_neg (by omega)]⟩
theorem rf_qin {N : Nat} {k : Int32} {v c : Nat} (hv : v < 3) {v0 : Nat → Int32} {env : Nat} {w : Nat → Int32} (hd : ¬ rf_dg v env = 0) (h : rf_qi N k v c v0 env w) : rf_qi N k v c v0 (env + 1) w := by
  refine ⟨h.1, fun e he => ?_⟩
  rw [h.2 e he]
  apply rf_ifc
  have hne : ¬ rf_sd v e 0 = env := by
    intro z
    apply hd
    rw [← z]
    exact (rf_cc v hv e he).1
  constructor
  · exact fun z => ⟨z.1, by omega⟩
  · exact fun z => ⟨z.1, by omega⟩
theorem rf_qij {N : Nat} {k : Int32} {v c : Nat} {v0 : Nat → Int32} {env : Nat} {w : Nat → Int32} (h : rf_qi N k v c v0 env w) : rf_qj N k v c v0 env 0 w := by
  refine ⟨h.1, fun e he => ?_⟩
  rw [h.2 e he]
  apply rf_ifc
  exact ⟨Or.inl, fun z => z.elim id (fun z => absurd z.2 (by omega))⟩
theorem rf_qji {N : Nat} {k : Int32} {v c : Nat} {v0 : Nat → Int32} {env : Nat} {w : Nat → Int32} (h : rf_qj N k v c v0 env N w) : rf_qi N k v c v0 (env + 1) w := by
  refine ⟨h.1, fun e he => ?_⟩
  rw [h.2 e he]
  apply rf_ifc
  omega
theorem rf_qjs {N : Nat} (hN : N ≤ 4) {k : Int32} {v c : Nat} (hv : v < 3) {v0 : Nat → Int32} {env a : Nat} {w : Nat → Int32} (henv : env < 64) (hd : rf_dg v env = 0) (ha : a < N) (h : rf_qj N k v c v0 env a w) : rf_qj N k v c v0 env (a + 1) (upd w (c + env + a * 4 ^ v) (rf_rs N k v c v0 env)) := by
  obtain ⟨c1, c2, c3⟩ := rf_cs v hv env henv a (by omega) hd
  refine ⟨fun j hj => ?_, fun e he => ?_⟩
  · rw [pk_un (by omega)]
    exact h.1 j hj
  · obtain ⟨d1, d2, d3⟩ := rf_cd v hv e he
    by_cases e1 : rf_sd v e 0 = env ∧ rf_dg v e = a
    · have e2 : c + e = c + env + a * 4 ^ v := by
        rw [e1.1, e1.2] at d1
        omega
      rw [if_pos (Or.inr ⟨e1.1, by omega⟩), e2, pk_us, e1.1]
    · have e2 : ¬ c + e = c + env + a * 4 ^ v := by
        intro z
        have z : e = env + a * 4 ^ v := by omega
        apply e1
        rw [z]
        exact ⟨c2, c1⟩
      rw [pk_un e2, h.2 e he]
      apply rf_ifc
      constructor
      · exact fun z => z.elim Or.inl (fun z => Or.inr ⟨z.1, by omega⟩)
      · rintro (z | z)
        · exact Or.inl z
        · exact Or.inr ⟨z.1, by omega⟩
theorem rf_qir {N : Nat} (hN : N ≤ 4) {k : Int32} {v c : Nat} (hv : v < 3) {v0 : Nat → Int32} {env a : Nat} {w : Nat → Int32} (henv : env < 64) (hd : rf_dg v env = 0) (ha : a < N) (h : rf_qi N k v c v0 env w) : w (c + env + a * 4 ^ v) = v0 (c + env + a * 4 ^ v) := by
  obtain ⟨c1, c2, c3⟩ := rf_cs v hv env henv a (by omega) hd
  have q := h.2 (env + a * 4 ^ v) c3
  rw [if_neg (by omega), ← Nat.add_assoc] at q
  exact q
theorem rf_xqag {N R E g h : Nat} (h1 : 1 ≤ N) (hN : N ≤ 4) (hg3 : g ≤ 3) (hEg : E = 4 ^ g) {ar ty v0 w : Nat → Int32} {cur : Nat → Int32} {S : Nat → Nat → Int32} {k a tt st : Int32} (hw : rf_wf R ar ty h k a tt st) (hk : k = 21 ∨ k = 22) {v : Nat} (hv : v < g) (hva : a = nI v) (hS : rf_St N h ty S) (hA : rf_ag N E h v0 S) (hq : rf_qi N k v ((h - 1) * 64) v0 E w) :
    ∀ e, e < E → rf_gd N e → w ((h - 1) * 64 + e) = rf_nv N cur k a (rf_lt k ty h) (rf_rr k ty h) S (h - 1) e := by
  intro e he hgd
  have hE64 : E ≤ 64 := by
    rw [hEg]
    have hc : g = 0 ∨ g = 1 ∨ g = 2 ∨ g = 3 := by omega
    rcases hc with rfl | rfl | rfl | rfl <;> decide
  obtain ⟨v', hv', ea, et, hz⟩ := rf_tq h1 hN hw hS hk (show e < 64 by omega) hgd
  have evv : v' = v := by
    rw [hva, nI_eq (by omega) (by omega)] at ea
    exact ea.symm
  subst evv
  have hp1 : rf_pp k = 1 := by rcases hk with rfl | rfl <;> decide +kernel
  have hp := hw.2.1
  obtain ⟨d1, d2, d3⟩ := rf_cd v' hv' e (by omega)
  rw [hq.2 e (by omega), if_pos ⟨rf_dgN hv' hgd, by omega⟩]
  have hsm : rf_sm N (fun b => v0 ((h - 1) * 64 + rf_sd v' e 0 + b * 4 ^ v')) = rf_sm N (fun b => S (h - 1) (rf_sd v' e b)) := by
    apply rf_smc
    intro b hb
    have q := rf_sdg hN hv' (show e < 64 by omega) hgd hb
    have qe := rf_sdE (d := b) hg3 hv (by rw [← hEg]; exact he) (by omega)
    rw [Nat.add_assoc, ← rf_sda v' hv' e (by omega) b]
    exact hA (h - 1) (by omega) _ (by rw [hEg]; exact qe) q.1
  have hs := rf_qaS h1 hN _ hz
  have ec : a.toNatClampNeg = v' := by
    rw [hva]
    exact nI_clamp (by omega)
  unfold rf_rs
  rw [hsm]
  rcases hk with rfl | rfl
  · rw [if_pos rfl, rf_nv21, ec]
    exact hs.1
  · rw [if_neg (show ¬ (22 : Int32) = 21 by decide), rf_nv22, ec]
    exact hs.2.1
