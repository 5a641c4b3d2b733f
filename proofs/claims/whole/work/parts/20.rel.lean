/-! the relation; construction, declare, bounds, getters -/
def rl_I (N R T : Nat) (xs : Int32) (ar md rq ex tk ta tt sp sT hd ns : Nat → Int32) : Prop :=
  1 ≤ N ∧ N ≤ 4 ∧ 1 ≤ R ∧ R ≤ 4 ∧ T ≤ 32 ∧ rf_bd N ar md rq ex ∧ rf_WF R ar tk ta tt sp T
  ∧ (∀ s, s < rf_hg tk T → sT s = rf_ty tk tt T s ∧ (sT s = 0 ∨ sT s = 1 ∨ sT s = 2)) ∧ (xs = 1 → ∀ q, q < R → hd q = ns q)
def i_Rel (_ : Nat) (u : SX) (v : SY) : Prop := ∃ (N R T : Nat) (xs xp xe : Int32) (ar rq ex tk ta sp sT sM hd pR pB vl md tt ns cu vs eT tm : Nat → Int32),
  u = (nI N, nI R, nI T, nI (rf_hg tk T), xs, xp, xe, ar, rq, ex, tk, ta, sp, sT, sM, hd, pR, pB, vl) ∧ v = (nI N, nI R, nI T, nI (rf_hg tk T), xs, ar, md, tk, ta, tt, sT, sM, ns, cu, vs, eT, tm) ∧ rl_I N R T xs ar md rq ex tk ta tt sp sT hd ns
theorem rl_mk {k N R T : Nat} {xs xp xe : Int32} {ar rq ex tk ta sp sT sM hd pR pB vl md tt ns cu vs eT tm : Nat → Int32} (I : rl_I N R T xs ar md rq ex tk ta tt sp sT hd ns) : i_Rel k (nI N, nI R, nI T, nI (rf_hg tk T), xs, xp, xe, ar, rq, ex, tk, ta, sp, sT, sM, hd, pR, pB, vl) (nI N, nI R, nI T, nI (rf_hg tk T), xs, ar, md, tk, ta, tt, sT, sM, ns, cu, vs, eT, tm) :=
  ⟨N, R, T, xs, xp, xe, ar, rq, ex, tk, ta, sp, sT, sM, hd, pR, pB, vl, md, tt, ns, cu, vs, eT, tm, rfl, rfl, I⟩
theorem i_up {k : Nat} {u : SX} {v : SY} (h : i_Rel k u v) : i_Rel (k + 5) u v := h
theorem rl_cp (p : Int32) : ∃ N : Nat, 1 ≤ N ∧ N ≤ 4 ∧ (∀ post : Int32 → Prop, post (nI N) → wpX_clamp post p 4) ∧ (∀ A : Int32 → Prop, A (nI N) → ((1 ≤ p → (((p ≤ 4 → A p) ∧ (¬ p ≤ 4 → A 4)))) ∧ (¬ 1 ≤ p → A 1))) := by
  by_cases h1 : 1 ≤ p
  · by_cases h4 : p ≤ 4
    · obtain ⟨j, hj, rfl⟩ := nI_of2 (x := p) (M := 4) (n := 4) (by decide) (Int32.not_lt.mpr (Int32.le_trans (by decide) h1)) h4
      have hj1 : 1 ≤ j := (nI_leI (a := 1) (b := j) (by omega) (by omega)).mp h1
      exact ⟨j, hj1, hj, fun post hp => br_t h1 (br_t h4 hp), fun A hp => br_t h1 (br_t h4 hp)⟩
    · exact ⟨4, by omega, by omega, fun post hp => br_t h1 (br_f h4 hp), fun A hp => br_t h1 (br_f h4 hp)⟩
  · exact ⟨1, by omega, by omega, fun post hp => br_f h1 hp, fun A hp => br_f h1 hp⟩
def rl_a1 : Nat → Int32 := rf_it (fun i (f : Nat → Int32) => upd f i 1) (fun _ => 0) 4
theorem rl_a1v : ∀ q, q < 4 → rl_a1 q = 1 := by
  intro q hq
  have hc : q = 0 ∨ q = 1 ∨ q = 2 ∨ q = 3 := by omega
  rcases hc with rfl | rfl | rfl | rfl <;> rfl
theorem rl_I0 {N R : Nat} (h1 : 1 ≤ N) (h2 : N ≤ 4) (h3 : 1 ≤ R) (h4 : R ≤ 4) : rl_I N R 0 0 rl_a1 (fun _ => 0) (fun _ => 0) (fun _ => 0) (fun _ => 0) (fun _ => 0) (fun _ => 0) (fun _ => 0) (fun _ => 0) (fun _ => 0) (fun _ => 0) := by
  refine ⟨h1, h2, h3, h4, by omega, ?_, fun i hi => absurd hi (Nat.not_lt_zero i), fun s hs => absurd hs (Nat.not_lt_zero s), fun z => absurd z (by decide)⟩
  intro q hq
  refine ⟨Or.inl (rl_a1v q hq), fun i hi => ⟨?_, ?_, fun _ => Or.inl rfl⟩⟩
  · show bt 0 i = (rf_vt N (rl_a1 q) i && decide ((0 : Int32) = 1))
    rw [b_0, decide_eq_false (show ¬ (0 : Int32) = 1 by decide), Bool.and_false]
  · show bt 0 i = (rf_vt N (rl_a1 q) i && decide ((0 : Int32) = 2))
    rw [b_0, decide_eq_false (show ¬ (0 : Int32) = 2 by decide), Bool.and_false]
theorem i_vc0 (k0 : Int32) (k1 : Int32) : wpX_init (fun u => wpY_init (fun v => i_Rel 2 u v) k0 k1) k0 k1 := by
  obtain ⟨N, h1, h2, hX, hY⟩ := rl_cp k0
  obtain ⟨R, h3, h4, hX', hY'⟩ := rl_cp k1
  unfold wpX_init
  refine hX _ (hX' _ ?_)
  refine rf_lp (fun n i (f : Nat → Int32) => wX_init_142 _ (nI N) (nI R) 0 0 0 0 1 n (nI i) f (fun _ => 0) (fun _ => 0) (fun _ => 0) (fun _ => 0) (fun _ => 0) (fun _ => 0) (fun _ => 0) (fun _ => 0) (fun _ => 0) (fun _ => 0) (fun _ => 0)) (fun i f => upd f i 1) 4 (fun _ => 0) (fun n => br_t (by decide) ?_) (fun n i f hi hn => ?_)
  · refine hY (fun z => wY_init_118 _ k1 z 0 0 0 0 0 (fun _ => 0) (fun _ => 0) (fun _ => 0) (fun _ => 0) (fun _ => 0) (fun _ => 0) (fun _ => 0) (fun _ => 0) (fun _ => 0) (fun _ => 0) (fun _ => 0) (fun _ => 0)) ?_
    refine hY' (fun z => ∃ n146, wY_init_146 _ (nI N) z 0 0 0 n146 0 (fun _ => 0) (fun _ => 0) (fun _ => 0) (fun _ => 0) (fun _ => 0) (fun _ => 0) (fun _ => 0) (fun _ => 0) (fun _ => 0) (fun _ => 0) (fun _ => 0) (fun _ => 0)) ?_
    refine rf_lp (fun n i (f : Nat → Int32) => wY_init_146 _ (nI N) (nI R) 0 0 0 n (nI i) f (fun _ => 0) (fun _ => 0) (fun _ => 0) (fun _ => 0) (fun _ => 0) (fun _ => 0) (fun _ => 0) (fun _ => 0) (fun _ => 0) (fun _ => 0) (fun _ => 0)) (fun i f => upd f i 1) 4 (fun _ => 0) (fun n => br_t (by decide) ?_) (fun n i f hi hn => ?_)
    · exact rl_mk (T := 0) (rl_I0 h1 h2 h3 h4)
    · have hn : wY_init_146 _ (nI N) (nI R) 0 0 0 n (nI (i + 1)) (upd f i 1) (fun _ => 0) (fun _ => 0) (fun _ => 0) (fun _ => 0) (fun _ => 0) (fun _ => 0) (fun _ => 0) (fun _ => 0) (fun _ => 0) (fun _ => 0) (fun _ => 0) := hn
      refine br_f (nI_ge (b := 4) hi (by decide)) ⟨vp_in_nI (by omega) (by omega), ?_⟩
      rw [nI_clamp (show i < 2 ^ 31 by omega)]
      exact nm_e (nm_r (nI_1 i) hn)
  · have hn : wX_init_142 _ (nI N) (nI R) 0 0 0 0 1 n (nI (i + 1)) (upd f i 1) (fun _ => 0) (fun _ => 0) (fun _ => 0) (fun _ => 0) (fun _ => 0) (fun _ => 0) (fun _ => 0) (fun _ => 0) (fun _ => 0) (fun _ => 0) (fun _ => 0) := hn
    refine br_f (nI_ge (b := 4) hi (by decide)) ⟨vp_in_nI (by omega) (by omega), ?_⟩
    rw [nI_clamp (show i < 2 ^ 31 by omega)]
    exact nm_e (nm_r (nI_1 i) hn)
theorem i_vc_atoms {k : Nat} {u : SX} {v : SY} (I : i_Rel k u v) (hk : k + 5 ≤ 2562) : wpX_atoms (fun r => wpY_atoms (fun r' => r' = r ∧ i_Rel (k + 5) u v) v) u := by
  have I' := I
  obtain ⟨N, R, T, xs, xp, xe, ar, rq, ex, tk, ta, sp, sT, sM, hd, pR, pB, vl, md, tt, ns, cu, vs, eT, tm, rfl, rfl, I⟩ := I
  exact ⟨rfl, I'⟩
theorem i_vc_tokenCount {k : Nat} {u : SX} {v : SY} (I : i_Rel k u v) (hk : k + 5 ≤ 2562) : wpX_tokenCount (fun r => wpY_tokenCount (fun r' => r' = r ∧ i_Rel (k + 5) u v) v) u := by
  have I' := I
  obtain ⟨N, R, T, xs, xp, xe, ar, rq, ex, tk, ta, sp, sT, sM, hd, pR, pB, vl, md, tt, ns, cu, vs, eT, tm, rfl, rfl, I⟩ := I
  exact ⟨rfl, I'⟩
theorem i_vc_depth {k : Nat} {u : SX} {v : SY} (I : i_Rel k u v) (hk : k + 5 ≤ 2562) : wpX_depth (fun r => wpY_depth (fun r' => r' = r ∧ i_Rel (k + 5) u v) v) u := by
  have I' := I
  obtain ⟨N, R, T, xs, xp, xe, ar, rq, ex, tk, ta, sp, sT, sM, hd, pR, pB, vl, md, tt, ns, cu, vs, eT, tm, rfl, rfl, I⟩ := I
  exact ⟨rfl, I'⟩
theorem i_vc_status {k : Nat} {u : SX} {v : SY} (I : i_Rel k u v) (hk : k + 5 ≤ 2562) : wpX_status (fun r => wpY_status (fun r' => r' = r ∧ i_Rel (k + 5) u v) v) u := by
  have I' := I
  obtain ⟨N, R, T, xs, xp, xe, ar, rq, ex, tk, ta, sp, sT, sM, hd, pR, pB, vl, md, tt, ns, cu, vs, eT, tm, rfl, rfl, I⟩ := I
  exact ⟨rfl, I'⟩
theorem rl_in {D : Nat} (hD : D ≤ 32) {x : Int32} (h0 : ¬ x < 0) (h : x < nI D) : vp_in x 32 := by
  obtain ⟨j, hj, rfl⟩ := nI_of h0
  rw [nI_ltI hj (by omega)] at h
  exact vp_in_nI (by omega) (by omega)
theorem i_vc_token {k : Nat} {u : SX} {v : SY} (I : i_Rel k u v) (hk : k + 5 ≤ 2562) (v1 : Int32) : wpX_token (fun r => wpY_token (fun r' => r' = r ∧ i_Rel (k + 5) u v) v v1) u v1 := by
  have I' := I
  obtain ⟨N, R, T, xs, xp, xe, ar, rq, ex, tk, ta, sp, sT, sM, hd, pR, pB, vl, md, tt, ns, cu, vs, eT, tm, rfl, rfl, I⟩ := I
  have hT := I.2.2.2.2.1
  by_cases h0 : v1 < 0
  · exact br_t h0 (br_t h0 ⟨rfl, I'⟩)
  · by_cases h1 : v1 < nI T
    · have vi := rl_in hT h0 h1
      exact br_f h0 (br_t h1 ⟨vi, vi, br_f h0 (br_t h1 ⟨vi, vi, rfl, I'⟩)⟩)
    · exact br_f h0 (br_f h1 (br_f h0 (br_f h1 ⟨rfl, I'⟩)))
theorem i_vc_stackEntry {k : Nat} {u : SX} {v : SY} (I : i_Rel k u v) (hk : k + 5 ≤ 2562) (v1 : Int32) : wpX_stackEntry (fun r => wpY_stackEntry (fun r' => r' = r ∧ i_Rel (k + 5) u v) v v1) u v1 := by
  have I' := I
  obtain ⟨N, R, T, xs, xp, xe, ar, rq, ex, tk, ta, sp, sT, sM, hd, pR, pB, vl, md, tt, ns, cu, vs, eT, tm, rfl, rfl, I⟩ := I
  have hT := I.2.2.2.2.1
  have hD := rf_hgi tk T
  by_cases h0 : v1 < 0
  · exact br_t h0 (br_t h0 ⟨rfl, I'⟩)
  · by_cases h1 : v1 < nI (rf_hg tk T)
    · have vi := rl_in (show rf_hg tk T ≤ 32 by omega) h0 h1
      exact br_f h0 (br_t h1 ⟨vi, vi, br_f h0 (br_t h1 ⟨vi, vi, rfl, I'⟩)⟩)
    · exact br_f h0 (br_f h1 (br_f h0 (br_f h1 ⟨rfl, I'⟩)))
theorem i_vc_clearFormula {k : Nat} {u : SX} {v : SY} (I : i_Rel k u v) (hk : k + 5 ≤ 2562) : wpX_clearFormula (fun u' => wpY_clearFormula (fun v' => i_Rel (k + 5) u' v') v) u := by
  obtain ⟨N, R, T, xs, xp, xe, ar, rq, ex, tk, ta, sp, sT, sM, hd, pR, pB, vl, md, tt, ns, cu, vs, eT, tm, rfl, rfl, I⟩ := I
  obtain ⟨h1, h2, h3, h4, _, h6, _, _, _⟩ := I
  exact rl_mk (k := k + 5) (T := 0) ⟨h1, h2, h3, h4, by omega, h6, fun i hi => absurd hi (Nat.not_lt_zero i), fun s hs => absurd hs (Nat.not_lt_zero s), fun z => absurd z (by decide)⟩
theorem i_vc_arityOf {k : Nat} {u : SX} {v : SY} (I : i_Rel k u v) (hk : k + 5 ≤ 2562) (v1 : Int32) : wpX_arityOf (fun r => wpY_arityOf (fun r' => r' = r ∧ i_Rel (k + 5) u v) v v1) u v1 := by
  have I' := I
  obtain ⟨N, R, T, xs, xp, xe, ar, rq, ex, tk, ta, sp, sT, sM, hd, pR, pB, vl, md, tt, ns, cu, vs, eT, tm, rfl, rfl, I⟩ := I
  obtain ⟨_, _, _, h4, _⟩ := I
  unfold wpX_arityOf
  dsimp only
  rcases pk_ix v1 (n := R) (by omega) with h | h | ⟨j, hj, rfl⟩
  · exact xw_irn _ _ (Or.inl h) (br_t rfl (br_t h ⟨rfl, I'⟩))
  · exact xw_irn _ _ (Or.inr h) (br_t rfl (br_c (fun _ => ⟨rfl, I'⟩) (fun _ => br_f (Int32.not_lt.mpr h) ⟨rfl, I'⟩)))
  · have vi : vp_in (nI j) 4 := vp_in_nI (by omega) (by omega)
    exact xw_irt _ h4 hj (br_f (by decide) ⟨vi, br_f (nI_pos (by omega)) (br_t (nI_lt hj (by omega)) ⟨vi, rfl, I'⟩)⟩)
theorem i_vc_freeCount {k : Nat} {u : SX} {v : SY} (I : i_Rel k u v) (hk : k + 5 ≤ 2562) : wpX_freeCount (fun r => wpY_freeCount (fun r' => r' = r ∧ i_Rel (k + 5) u v) v) u := by
  have I' := I
  obtain ⟨N, R, T, xs, xp, xe, ar, rq, ex, tk, ta, sp, sT, sM, hd, pR, pB, vl, md, tt, ns, cu, vs, eT, tm, rfl, rfl, I⟩ := I
  obtain ⟨_, h2, _, h4, _, h6, _⟩ := I
  exact xw_fc h2 h4 h6 _ (yw_fc h2 h4 _ ⟨rfl, I'⟩)
/-! declare -/
theorem rf_tclt {N i : Nat} {r : Int32} (hN : N ≤ 4) (h : rf_vt N r i = true) : rf_tc r i < 16 := by
  unfold rf_tc
  by_cases hr : r = 1
  · rw [if_pos hr]
    have := (rf_vt1 hr).mp h
    omega
  · rw [if_neg hr]
    exact ((rf_vt2 hr).mp h).1
theorem rf_andc {a : Bool} {p q : Prop} [Decidable p] [Decidable q] (h : a = true → (p ↔ q)) : (a && decide p) = (a && decide q) := by
  cases a with
  | false => rfl
  | true =>
    rw [Bool.true_and, Bool.true_and]
    exact Bool.eq_iff_iff.mpr (by rw [decide_eq_true_eq, decide_eq_true_eq]; exact h rfl)
theorem rl_dc {N j : Nat} (hN : N ≤ 4) {ar md rq ex : Nat → Int32} (hb : rf_bd N ar md rq ex) {r : Int32} (hr : r = 1 ∨ r = 2) : rf_bd N (upd ar j r) (rf_bk md (j * 16) 16 (fun _ => 0)) (upd rq j 0) (upd ex j 0) := by
  intro q hq
  by_cases e : q = j
  · subst e
    rw [pk_us, pk_us, pk_us]
    refine ⟨hr, fun i hi => ?_⟩
    have hz : rf_vt N r i = true → rf_bk md (q * 16) 16 (fun _ => 0) (q * 16 + rf_tc r i) = 0 := fun hv => rf_bki (rf_tclt hN hv)
    rw [b_0]
    refine ⟨?_, ?_, fun hv => Or.inl (hz hv)⟩
    · cases hv : rf_vt N r i with
      | false => rfl
      | true =>
        rw [hz hv]
        decide +kernel
    · cases hv : rf_vt N r i with
      | false => rfl
      | true =>
        rw [hz hv]
        decide +kernel
  · rw [pk_un e, pk_un e, pk_un e]
    obtain ⟨h0, h⟩ := hb q hq
    refine ⟨h0, fun i hi => ?_⟩
    obtain ⟨a, b, c⟩ := h i hi
    have hz : rf_vt N (ar q) i = true → rf_bk md (j * 16) 16 (fun _ => 0) (q * 16 + rf_tc (ar q) i) = md (q * 16 + rf_tc (ar q) i) := by
      intro hv
      have := rf_tclt hN hv
      exact rf_bko (by omega)
    refine ⟨?_, ?_, fun hv => by rw [hz hv]; exact c hv⟩
    · rw [a]
      exact rf_andc (fun hv => by rw [hz hv])
    · rw [b]
      exact rf_andc (fun hv => by rw [hz hv])
theorem i_vc_declare {k : Nat} {u : SX} {v : SY} (I : i_Rel k u v) (hk : k + 5 ≤ 2562) (v1 : Int32) (v2 : Int32) : wpX_declare (fun r u' => wpY_declare (fun r' v' => r' = r ∧ i_Rel (k + 5) u' v') v v1 v2) u v1 v2 := by
  have I' : i_Rel (k + 5) u v := I
  obtain ⟨N, R, T, xs, xp, xe, ar, rq, ex, tk, ta, sp, sT, sM, hd, pR, pB, vl, md, tt, ns, cu, vs, eT, tm, rfl, rfl, I⟩ := I
  obtain ⟨h1, h2, h3, h4, h5, h6, h7, h8, h9⟩ := I
  unfold wpX_declare
  dsimp only
  rcases pk_ix v1 (n := R) (by omega) with h | h | ⟨j, hj, rfl⟩
  · exact xw_irn _ _ (Or.inl h) (br_t rfl (br_t h ⟨rfl, I'⟩))
  · exact xw_irn _ _ (Or.inr h) (br_t rfl (br_c (fun _ => ⟨rfl, I'⟩) (fun _ => br_f (Int32.not_lt.mpr h) ⟨rfl, I'⟩)))
  · have vi : vp_in (nI j) 4 := vp_in_nI (by omega) (by omega)
    have j0 : ¬ nI j < 0 := nI_pos (by omega)
    have j1 : nI j < nI R := nI_lt hj (by omega)
    have ec : (nI j).toNatClampNeg = j := nI_clamp (by omega)
    refine xw_irt _ h4 hj (br_f (by decide) ?_)
    -- both sides, the arity being good
    have go : v2 = 1 ∨ v2 = 2 → wX_declare_22 (fun r u' => wpY_declare (fun r' v' => r' = r ∧ i_Rel (k + 5) u' v') (nI N, nI R, nI T, nI (rf_hg tk T), xs, ar, md, tk, ta, tt, sT, sM, ns, cu, vs, eT, tm) (nI j) v2) (nI j) v2 (nI N) (nI R) (nI T) (nI (rf_hg tk T)) xs xp xe ar rq ex tk ta sp sT sM hd pR pB vl := by
      intro hr
      have goY : ∀ post : Int32 → SY → Prop, wY_declare_26 post (nI j) v2 (nI N) (nI R) (nI T) (nI (rf_hg tk T)) xs ar md tk ta tt sT sM ns cu vs eT tm → wpY_declare post (nI N, nI R, nI T, nI (rf_hg tk T), xs, ar, md, tk, ta, tt, sT, sM, ns, cu, vs, eT, tm) (nI j) v2 := by
        intro post hp
        refine br_f j0 (br_t j1 ?_)
        rcases hr with hr | hr
        · exact br_t hr hp
        · exact br_f (by rw [hr]; decide) (br_t hr hp)
      unfold wX_declare_22
      rw [ec]
      by_cases hT : T = 0
      · subst hT
        refine br_t (by decide) ⟨vi, nm_e ⟨vi, nm_e ⟨vi, nm_e (goY _ (br_t (by decide) ⟨vi, ?_⟩))⟩⟩⟩
        rw [ec]
        refine nm_e ?_
        refine loop_0 (fun n t (m : Nat → Int32) => wY_declare_45 _ (nI j) (nI N) (nI R) (nI 0) (nI (rf_hg tk 0)) xs n (nI t) (upd ar j v2) m tk ta tt sT sM ns cu vs eT tm) (fun t m => m = rf_bk md (j * 16) t (fun _ => 0)) 16 md (rf_bk0 _ _ _).symm (fun n m hm => br_t (by decide) ?_) (fun n t m ht hm kk => ?_)
        · rw [hm]
          exact ⟨rfl, rl_mk (T := 0) ⟨h1, h2, h3, h4, by omega, rl_dc h2 h6 hr, fun i hi => absurd hi (Nat.not_lt_zero i), fun s hs => absurd hs (Nat.not_lt_zero s), fun z => absurd z (by decide)⟩⟩
        · obtain ⟨e1, e2, e3⟩ := yw_ix (j := j) (t := t) (by omega) ht
          refine br_f (nI_ge (b := 16) ht (by decide)) ?_
          rw [e1, e3, hm]
          exact ⟨e2, nm_r (rf_bks md (j * 16) t (fun _ => 0)) (nm_r (nI_1 t) (kk _ rfl))⟩
      · have hTn : ¬ nI T ≤ 0 := nI_nle (by omega) (by omega)
        exact br_f hTn (goY _ (br_f hTn ⟨rfl, I'⟩))
    by_cases r1 : v2 = 1
    · exact br_t r1 (go (Or.inl r1))
    · refine br_f r1 ?_
      by_cases r2 : v2 = 2
      · exact br_t r2 (go (Or.inr r2))
      · exact br_f r2 (br_f j0 (br_t j1 (br_f r1 (br_f r2 ⟨rfl, I'⟩))))
