/-! bound, boundOf, has, instanceSize -/
theorem rf_ab (x : Int32) (i : Nat) (hi : i < 32) : x &&& ((1 : Int32) <<< (nI i &&& 31)) = 0 ↔ ¬ bt x i = true := by
  rw [rf_z]
  constructor
  · intro h hb
    apply h i hi
    rw [b_and, Bool.and_eq_true]
    exact ⟨hb, (rf_sb i hi i hi).mpr rfl⟩
  · intro h j hj hb
    rw [b_and, Bool.and_eq_true] at hb
    have e := (rf_sb i hi j hj).mp hb.2
    subst e
    exact h hb.1
theorem rf_bn0 : ∀ i, i < 32 → ¬ (1 : Int32) <<< (nI i &&& 31) = 0 := by decide +kernel
theorem rf_sbb (i : Nat) (hi : i < 32) (b : Nat) (hb : b < 32) : bt ((1 : Int32) <<< (nI i &&& 31)) b = decide (b = i) := Bool.eq_iff_iff.mpr (by rw [rf_sb i hi b hb, decide_eq_true_eq])
theorem rf_clr (x : Int32) (i : Nat) (hi : i < 32) (b : Nat) (hb : b < 32) : bt (x &&& (((1 : Int32) <<< (nI i &&& 31)) ^^^ (-1))) b = (bt x b && !decide (b = i)) := by
  rw [b_and, b_xor, b_m1 b hb, rf_sbb i hi b hb, Bool.xor_true]
theorem rf_set (x : Int32) (i : Nat) (hi : i < 32) (b : Nat) (hb : b < 32) : bt ((x &&& (((1 : Int32) <<< (nI i &&& 31)) ^^^ (-1))) ||| ((1 : Int32) <<< (nI i &&& 31))) b = (bt x b || decide (b = i)) := by
  rw [b_or, rf_clr x i hi b hb, rf_sbb i hi b hb]
  cases bt x b <;> cases decide (b = i) <;> rfl
theorem rf_tcinj {r : Int32} {a b : Nat} (h : rf_tc r a = rf_tc r b) : a = b := by
  unfold rf_tc at h
  by_cases hr : r = 1
  · rw [if_pos hr, if_pos hr] at h
    omega
  · rw [if_neg hr, if_neg hr] at h
    exact h
theorem rl_bu {N j i : Nat} {m : Int32} (hN : N ≤ 4) (hj : j < 4) {ar md rq ex rq' ex' : Nat → Int32} (hb : rf_bd N ar md rq ex) (hv : rf_vt N (ar j) i = true) (hm : m = 0 ∨ m = 1 ∨ m = 2)
    (h1 : ∀ q, ¬ q = j → rq' q = rq q) (h2 : ∀ q, ¬ q = j → ex' q = ex q)
    (h3 : ∀ b, b < 32 → bt (rq' j) b = if b = i then decide (m = 1) else bt (rq j) b) (h4 : ∀ b, b < 32 → bt (ex' j) b = if b = i then decide (m = 2) else bt (ex j) b) : rf_bd N ar (upd md (j * 16 + rf_tc (ar j) i) m) rq' ex' := by
  intro q hq
  obtain ⟨g0, g⟩ := hb q hq
  refine ⟨g0, fun b hb => ?_⟩
  obtain ⟨a1, a2, a3⟩ := g b hb
  have ti := rf_tclt hN hv
  by_cases e : q = j
  · subst e
    rw [h3 b hb, h4 b hb]
    by_cases eb : b = i
    · subst eb
      rw [if_pos rfl, if_pos rfl, pk_us, hv, Bool.true_and, Bool.true_and]
      exact ⟨rfl, rfl, fun _ => hm⟩
    · have ne : ¬ q * 16 + rf_tc (ar q) b = q * 16 + rf_tc (ar q) i := fun z => eb (rf_tcinj (r := ar q) (by omega))
      rw [if_neg eb, if_neg eb, pk_un ne]
      exact ⟨a1, a2, a3⟩
  · rw [h1 q e, h2 q e, a1, a2]
    have ne : rf_vt N (ar q) b = true → upd md (j * 16 + rf_tc (ar j) i) m (q * 16 + rf_tc (ar q) b) = md (q * 16 + rf_tc (ar q) b) := by
      intro hv2
      have := rf_tclt hN hv2
      exact pk_un (by omega)
    exact ⟨rf_andc (fun z => by rw [ne z]), rf_andc (fun z => by rw [ne z]), fun z => by rw [ne z]; exact a3 z⟩
theorem i_vc_bound {k : Nat} {u : SX} {v : SY} (I : i_Rel k u v) (hk : k + 5 ≤ 2562) (v1 : Int32) (v2 : Int32) (v3 : Int32) (v4 : Int32) : wpX_bound (fun r u' => wpY_bound (fun r' v' => r' = r ∧ i_Rel (k + 5) u' v') v v1 v2 v3 v4) u v1 v2 v3 v4 := by
  have I' : i_Rel (k + 5) u v := I
  obtain ⟨N, R, T, xs, xp, xe, ar, rq, ex, tk, ta, sp, sT, sM, hd, pR, pB, vl, md, tt, ns, cu, vs, eT, tm, rfl, rfl, I⟩ := I
  obtain ⟨h1, h2, h3, h4, h5, h6, h7, h8, h9⟩ := I
  unfold wpX_bound wpY_bound
  dsimp only
  rcases rl_tup (xt := nI T) (xd := nI (rf_hg tk T)) (xs := xs) (xp := xp) (xe := xe) (ar := ar) (rq := rq) (ex := ex) (tk := tk) (ta := ta) (sp := sp) (sT := sT) (sM := sM) (hd := hd) (pR := pR) (pB := pB) (vl := vl) (md := md) (tt := tt) (ns := ns) (cu := cu) (vs := vs) (eT := eT) (tm := tm) h2 h4 v1 v2 v3 with ⟨j, i, hj, hi, rfl, hv, hX, hY, hix, _, _⟩ | ⟨hX, hY⟩
  · refine hX _ (br_f (rf_bn0 i (by omega)) ?_)
    have vi : vp_in (nI j) 4 := vp_in_nI (by omega) (by omega)
    have ec : (nI j).toNatClampNeg = j := nI_clamp (by omega)
    have tl := rf_tclt h2 hv
    -- Y's side, once the mode is good
    have goY : ∀ (m : Nat) (post : Int32 → SY → Prop), m < 3 → v4 = nI m → post (nI (rf_cn (rf_fq N ar (upd md (j * 16 + rf_tc (ar j) i) (nI m))) (R * 16))) (nI N, nI R, nI T, nI (rf_hg tk T), 0, ar, upd md (j * 16 + rf_tc (ar j) i) (nI m), tk, ta, tt, sT, sM, ns, cu, vs, eT, tm) → wpY_tupleOk (fun r_1 => (((r_1 = 0 → (post (-1) (nI N, nI R, nI T, nI (rf_hg tk T), xs, ar, md, tk, ta, tt, sT, sM, ns, cu, vs, eT, tm))) ∧ (¬ r_1 = 0 → (((v4 < 0 → (post (-1) (nI N, nI R, nI T, nI (rf_hg tk T), xs, ar, md, tk, ta, tt, sT, sM, ns, cu, vs, eT, tm))) ∧ (¬ v4 < 0 → (((v4 ≤ 2 → (vp_in (((nI j * 16) + (v2 * 4)) + v3) 64 ∧ ∀ a_mode_23 : Nat → Int32, a_mode_23 = upd md (((nI j * 16) + (v2 * 4)) + v3).toNatClampNeg v4 → (wpY_freeCount (fun r_24 => (post r_24 (nI N, nI R, nI T, nI (rf_hg tk T), 0, ar, a_mode_23, tk, ta, tt, sT, sM, ns, cu, vs, eT, tm))) (nI N, nI R, nI T, nI (rf_hg tk T), 0, ar, a_mode_23, tk, ta, tt, sT, sM, ns, cu, vs, eT, tm)))) ∧ (¬ v4 ≤ 2 → (post (-1) (nI N, nI R, nI T, nI (rf_hg tk T), xs, ar, md, tk, ta, tt, sT, sM, ns, cu, vs, eT, tm)))))))))))) (nI N, nI R, nI T, nI (rf_hg tk T), xs, ar, md, tk, ta, tt, sT, sM, ns, cu, vs, eT, tm) (nI j) v2 v3 := by
      intro m post hm em hp
      refine hY _ (br_f (by decide) ?_)
      rw [em, hix, nI_clamp (show j * 16 + rf_tc (ar j) i < 2 ^ 31 by omega)]
      exact br_f (nI_pos (by omega)) (br_t (nI_le (b := 2) (by omega) (by decide)) ⟨vp_in_nI (by omega) (by omega), nm_e (yw_fc h2 h4 _ hp)⟩)
    have badY : ∀ post : Int32 → SY → Prop, (v4 < 0 ∨ nI 3 ≤ v4) → post (-1) (nI N, nI R, nI T, nI (rf_hg tk T), xs, ar, md, tk, ta, tt, sT, sM, ns, cu, vs, eT, tm) → wpY_tupleOk (fun r_1 => (((r_1 = 0 → (post (-1) (nI N, nI R, nI T, nI (rf_hg tk T), xs, ar, md, tk, ta, tt, sT, sM, ns, cu, vs, eT, tm))) ∧ (¬ r_1 = 0 → (((v4 < 0 → (post (-1) (nI N, nI R, nI T, nI (rf_hg tk T), xs, ar, md, tk, ta, tt, sT, sM, ns, cu, vs, eT, tm))) ∧ (¬ v4 < 0 → (((v4 ≤ 2 → (vp_in (((nI j * 16) + (v2 * 4)) + v3) 64 ∧ ∀ a_mode_23 : Nat → Int32, a_mode_23 = upd md (((nI j * 16) + (v2 * 4)) + v3).toNatClampNeg v4 → (wpY_freeCount (fun r_24 => (post r_24 (nI N, nI R, nI T, nI (rf_hg tk T), 0, ar, a_mode_23, tk, ta, tt, sT, sM, ns, cu, vs, eT, tm))) (nI N, nI R, nI T, nI (rf_hg tk T), 0, ar, a_mode_23, tk, ta, tt, sT, sM, ns, cu, vs, eT, tm)))) ∧ (¬ v4 ≤ 2 → (post (-1) (nI N, nI R, nI T, nI (rf_hg tk T), xs, ar, md, tk, ta, tt, sT, sM, ns, cu, vs, eT, tm)))))))))))) (nI N, nI R, nI T, nI (rf_hg tk T), xs, ar, md, tk, ta, tt, sT, sM, ns, cu, vs, eT, tm) (nI j) v2 v3 := by
      intro post hb hp
      refine hY _ (br_f (by decide) (br_c (fun _ => hp) (fun hn => br_f (fun z => ?_) hp)))
      have z2 := Int32.le_trans (hb.resolve_left hn) z
      exact absurd z2 (by decide)
    have nq : ∀ (f : Nat → Int32) (x : Int32) (q : Nat), ¬ q = j → upd f j x q = f q := fun f x q hq => pk_un hq
    rcases pk_ix v4 (n := 3) (by omega) with hb | hb | ⟨m, hm, em⟩
    · exact br_f (fun z => by rw [z] at hb; exact absurd hb (by decide)) (br_f (fun z => by rw [z] at hb; exact absurd hb (by decide)) (br_f (fun z => by rw [z] at hb; exact absurd hb (by decide)) (badY (fun r' v' => r' = -1 ∧ i_Rel (k + 5) _ v') (Or.inl hb) ⟨rfl, I'⟩)))
    · exact br_f (fun z => by rw [z] at hb; exact absurd hb (by decide)) (br_f (fun z => by rw [z] at hb; exact absurd hb (by decide)) (br_f (fun z => by rw [z] at hb; exact absurd hb (by decide)) (badY (fun r' v' => r' = -1 ∧ i_Rel (k + 5) _ v') (Or.inr hb) ⟨rfl, I'⟩)))
    · have hc : m = 0 ∨ m = 1 ∨ m = 2 := by omega
      have fin : ∀ rq' ex', rf_bd N ar (upd md (j * 16 + rf_tc (ar j) i) (nI m)) rq' ex' → wX_bound_98 (fun r u' => wpY_tupleOk (fun r_1 => (((r_1 = 0 → ((-1) = r ∧ i_Rel (k + 5) u' (nI N, nI R, nI T, nI (rf_hg tk T), xs, ar, md, tk, ta, tt, sT, sM, ns, cu, vs, eT, tm))) ∧ (¬ r_1 = 0 → (((v4 < 0 → ((-1) = r ∧ i_Rel (k + 5) u' (nI N, nI R, nI T, nI (rf_hg tk T), xs, ar, md, tk, ta, tt, sT, sM, ns, cu, vs, eT, tm))) ∧ (¬ v4 < 0 → (((v4 ≤ 2 → (vp_in (((nI j * 16) + (v2 * 4)) + v3) 64 ∧ ∀ a_mode_23 : Nat → Int32, a_mode_23 = upd md (((nI j * 16) + (v2 * 4)) + v3).toNatClampNeg v4 → (wpY_freeCount (fun r_24 => (r_24 = r ∧ i_Rel (k + 5) u' (nI N, nI R, nI T, nI (rf_hg tk T), 0, ar, a_mode_23, tk, ta, tt, sT, sM, ns, cu, vs, eT, tm))) (nI N, nI R, nI T, nI (rf_hg tk T), 0, ar, a_mode_23, tk, ta, tt, sT, sM, ns, cu, vs, eT, tm)))) ∧ (¬ v4 ≤ 2 → ((-1) = r ∧ i_Rel (k + 5) u' (nI N, nI R, nI T, nI (rf_hg tk T), xs, ar, md, tk, ta, tt, sT, sM, ns, cu, vs, eT, tm)))))))))))) (nI N, nI R, nI T, nI (rf_hg tk T), xs, ar, md, tk, ta, tt, sT, sM, ns, cu, vs, eT, tm) (nI j) v2 v3) (nI N) (nI R) (nI T) (nI (rf_hg tk T)) xs xp xe ar (rq') (ex') tk ta sp sT sM hd pR pB vl := by
        intro rq' ex' hbd
        refine xw_fc (md := upd md (j * 16 + rf_tc (ar j) i) (nI m)) h2 h4 hbd _ ?_
        refine goY m (fun r' v' => r' = _ ∧ i_Rel (k + 5) _ v') hm em ⟨rfl, ?_⟩
        exact rl_mk ⟨h1, h2, h3, h4, h5, hbd, h7, h8, fun z => absurd z (by decide)⟩
      rcases hc with rfl | rfl | rfl
      · refine br_t em ?_
        unfold wX_bound_35
        rw [ec]
        refine ⟨vi, vi, nm_e ⟨vi, vi, nm_e (br_f (by rw [em]; decide) (br_f (by rw [em]; decide) (fin _ _ ?_)))⟩⟩
        refine rl_bu h2 (by omega) h6 hv (by decide) (nq _ _) (nq _ _) (fun b hb => ?_) (fun b hb => ?_)
        · rw [pk_us, rf_clr _ i (by omega) b hb]
          by_cases e : b = i
          · rw [if_pos e, decide_eq_true e]
            cases bt (rq j) b <;> rfl
          · rw [if_neg e, decide_eq_false e]
            cases bt (rq j) b <;> rfl
        · rw [pk_us, rf_clr _ i (by omega) b hb]
          by_cases e : b = i
          · rw [if_pos e, decide_eq_true e]
            cases bt (ex j) b <;> rfl
          · rw [if_neg e, decide_eq_false e]
            cases bt (ex j) b <;> rfl
      · refine br_f (by rw [em]; decide) (br_t em ?_)
        unfold wX_bound_35
        rw [ec]
        refine ⟨vi, vi, nm_e ⟨vi, vi, nm_e (br_t em ⟨vi, vi, nm_e (fin _ _ ?_)⟩)⟩⟩
        refine rl_bu h2 (by omega) h6 hv (by decide) (fun q hq => by rw [pk_un hq, pk_un hq]) (nq _ _) (fun b hb => ?_) (fun b hb => ?_)
        · rw [pk_us, pk_us, rf_set _ i (by omega) b hb]
          by_cases e : b = i
          · rw [if_pos e, decide_eq_true e]
            cases bt (rq j) b <;> rfl
          · rw [if_neg e, decide_eq_false e]
            cases bt (rq j) b <;> rfl
        · rw [pk_us, rf_clr _ i (by omega) b hb]
          by_cases e : b = i
          · rw [if_pos e, decide_eq_true e]
            cases bt (ex j) b <;> rfl
          · rw [if_neg e, decide_eq_false e]
            cases bt (ex j) b <;> rfl
      · refine br_f (by rw [em]; decide) (br_f (by rw [em]; decide) (br_t em ?_))
        unfold wX_bound_35
        rw [ec]
        refine ⟨vi, vi, nm_e ⟨vi, vi, nm_e (br_f (by rw [em]; decide) (br_t em ⟨vi, vi, nm_e (fin _ _ ?_)⟩))⟩⟩
        refine rl_bu h2 (by omega) h6 hv (by decide) (nq _ _) (fun q hq => by rw [pk_un hq, pk_un hq]) (fun b hb => ?_) (fun b hb => ?_)
        · rw [pk_us, rf_clr _ i (by omega) b hb]
          by_cases e : b = i
          · rw [if_pos e, decide_eq_true e]
            cases bt (rq j) b <;> rfl
          · rw [if_neg e, decide_eq_false e]
            cases bt (rq j) b <;> rfl
        · rw [pk_us, pk_us, rf_set _ i (by omega) b hb]
          by_cases e : b = i
          · rw [if_pos e, decide_eq_true e]
            cases bt (ex j) b <;> rfl
          · rw [if_neg e, decide_eq_false e]
            cases bt (ex j) b <;> rfl
  · exact hX _ (br_t rfl (hY _ (br_t rfl ⟨rfl, I'⟩)))
theorem i_vc_boundOf {k : Nat} {u : SX} {v : SY} (I : i_Rel k u v) (hk : k + 5 ≤ 2562) (v1 : Int32) (v2 : Int32) (v3 : Int32) : wpX_boundOf (fun r => wpY_boundOf (fun r' => r' = r ∧ i_Rel (k + 5) u v) v v1 v2 v3) u v1 v2 v3 := by
  have I' : i_Rel (k + 5) u v := I
  obtain ⟨N, R, T, xs, xp, xe, ar, rq, ex, tk, ta, sp, sT, sM, hd, pR, pB, vl, md, tt, ns, cu, vs, eT, tm, rfl, rfl, I⟩ := I
  obtain ⟨h1, h2, h3, h4, h5, h6, h7, h8, h9⟩ := I
  unfold wpX_boundOf wpY_boundOf
  dsimp only
  rcases rl_tup (xt := nI T) (xd := nI (rf_hg tk T)) (xs := xs) (xp := xp) (xe := xe) (ar := ar) (rq := rq) (ex := ex) (tk := tk) (ta := ta) (sp := sp) (sT := sT) (sM := sM) (hd := hd) (pR := pR) (pB := pB) (vl := vl) (md := md) (tt := tt) (ns := ns) (cu := cu) (vs := vs) (eT := eT) (tm := tm) h2 h4 v1 v2 v3 with ⟨j, i, hj, hi, rfl, hv, hX, hY, hix, _, _⟩ | ⟨hX, hY⟩
  · have vi : vp_in (nI j) 4 := vp_in_nI (by omega) (by omega)
    have ec : (nI j).toNatClampNeg = j := nI_clamp (by omega)
    have tl := rf_tclt h2 hv
    obtain ⟨_, hb⟩ := h6 j (by omega)
    obtain ⟨b1, b2, b3⟩ := hb i (by omega)
    rw [hv, Bool.true_and] at b1 b2
    have fin : ∀ r : Int32, md (j * 16 + rf_tc (ar j) i) = r → wpY_tupleOk (fun r_1 => (((r_1 = 0 → ((-1) = r ∧ i_Rel (k + 5) (nI N, nI R, nI T, nI (rf_hg tk T), xs, xp, xe, ar, rq, ex, tk, ta, sp, sT, sM, hd, pR, pB, vl) (nI N, nI R, nI T, nI (rf_hg tk T), xs, ar, md, tk, ta, tt, sT, sM, ns, cu, vs, eT, tm))) ∧ (¬ r_1 = 0 → (vp_in (((nI j * 16) + (v2 * 4)) + v3) 64 ∧ (md (((nI j * 16) + (v2 * 4)) + v3).toNatClampNeg = r ∧ i_Rel (k + 5) (nI N, nI R, nI T, nI (rf_hg tk T), xs, xp, xe, ar, rq, ex, tk, ta, sp, sT, sM, hd, pR, pB, vl) (nI N, nI R, nI T, nI (rf_hg tk T), xs, ar, md, tk, ta, tt, sT, sM, ns, cu, vs, eT, tm))))))) (nI N, nI R, nI T, nI (rf_hg tk T), xs, ar, md, tk, ta, tt, sT, sM, ns, cu, vs, eT, tm) (nI j) v2 v3 := by
      intro r hr
      refine hY _ (br_f (by decide) ?_)
      rw [hix, nI_clamp (show j * 16 + rf_tc (ar j) i < 2 ^ 31 by omega)]
      exact ⟨vp_in_nI (by omega) (by omega), hr, I'⟩
    refine hX _ (br_f (rf_bn0 i (by omega)) ?_)
    rw [ec]
    refine ⟨vi, ?_⟩
    rcases b3 hv with e | e | e
    · rw [e] at b1 b2
      refine br_t ((rf_ab _ i (by omega)).mpr (by rw [b1]; decide)) ⟨vi, br_t ((rf_ab _ i (by omega)).mpr (by rw [b2]; decide)) (fin 0 e)⟩
    · rw [e] at b1 b2
      exact br_f (fun z => (rf_ab _ i (by omega)).mp z (by rw [b1]; decide)) (fin 1 e)
    · rw [e] at b1 b2
      refine br_t ((rf_ab _ i (by omega)).mpr (by rw [b1]; decide)) ⟨vi, br_f (fun z => (rf_ab _ i (by omega)).mp z (by rw [b2]; decide)) (fin 2 e)⟩
  · exact hX _ (br_t rfl (hY _ (br_t rfl ⟨rfl, I'⟩)))
theorem i_vc_has {k : Nat} {u : SX} {v : SY} (I : i_Rel k u v) (hk : k + 5 ≤ 2562) (v1 : Int32) (v2 : Int32) (v3 : Int32) : wpX_has (fun r => wpY_has (fun r' => r' = r ∧ i_Rel (k + 5) u v) v v1 v2 v3) u v1 v2 v3 := by
  have I' : i_Rel (k + 5) u v := I
  obtain ⟨N, R, T, xs, xp, xe, ar, rq, ex, tk, ta, sp, sT, sM, hd, pR, pB, vl, md, tt, ns, cu, vs, eT, tm, rfl, rfl, I⟩ := I
  obtain ⟨h1, h2, h3, h4, h5, h6, h7, h8, h9⟩ := I
  by_cases hs : xs = 1
  · have h9 := h9 hs
    refine br_t hs ?_
    rcases rl_tup (xt := nI T) (xd := nI (rf_hg tk T)) (xs := xs) (xp := xp) (xe := xe) (ar := ar) (rq := rq) (ex := ex) (tk := tk) (ta := ta) (sp := sp) (sT := sT) (sM := sM) (hd := hd) (pR := pR) (pB := pB) (vl := vl) (md := md) (tt := tt) (ns := ns) (cu := cu) (vs := vs) (eT := eT) (tm := tm) h2 h4 v1 v2 v3 with ⟨j, i, hj, hi, rfl, hv, hX, hY, hix, hu, hb⟩ | ⟨hX, hY⟩
    · have vi : vp_in (nI j) 4 := vp_in_nI (by omega) (by omega)
      have ec : (nI j).toNatClampNeg = j := nI_clamp (by omega)
      have fin : ∀ r : Int32, (ns j >>> (nI i &&& 31)) &&& 1 = r → wpY_has (fun r' => r' = r ∧ i_Rel (k + 5) (nI N, nI R, nI T, nI (rf_hg tk T), xs, xp, xe, ar, rq, ex, tk, ta, sp, sT, sM, hd, pR, pB, vl) (nI N, nI R, nI T, nI (rf_hg tk T), xs, ar, md, tk, ta, tt, sT, sM, ns, cu, vs, eT, tm)) (nI N, nI R, nI T, nI (rf_hg tk T), xs, ar, md, tk, ta, tt, sT, sM, ns, cu, vs, eT, tm) (nI j) v2 v3 := by
        intro r hr
        refine br_t hs (hY _ (br_f (by decide) ⟨vi, ?_⟩))
        unfold wY_has_41
        rw [ec]
        by_cases ha : ar j = 1
        · rw [hu ha]
          exact br_t ha ⟨vi, hr, I'⟩
        · rw [hb ha]
          exact br_f ha ⟨vi, hr, I'⟩
      refine hX _ (br_f (rf_bn0 i (by omega)) ⟨vi, ?_⟩)
      rw [ec, h9 j hj]
      by_cases hbt : bt (ns j) i = true
      · exact br_f (fun z => (rf_ab _ i (by omega)).mp z hbt) (fin 1 ((rf_bo _ i (by omega)).mpr hbt))
      · exact br_t ((rf_ab _ i (by omega)).mpr hbt) (fin 0 ((rf_bz _ i (by omega)).mpr hbt))
    · exact hX _ (br_t rfl (br_t hs (hY _ (br_t rfl ⟨rfl, I'⟩))))
  · exact br_f hs (br_f hs ⟨rfl, I'⟩)
theorem i_vc_instanceSize {k : Nat} {u : SX} {v : SY} (I : i_Rel k u v) (hk : k + 5 ≤ 2562) (v1 : Int32) : wpX_instanceSize (fun r => wpY_instanceSize (fun r' => r' = r ∧ i_Rel (k + 5) u v) v v1) u v1 := by
  have I' : i_Rel (k + 5) u v := I
  obtain ⟨N, R, T, xs, xp, xe, ar, rq, ex, tk, ta, sp, sT, sM, hd, pR, pB, vl, md, tt, ns, cu, vs, eT, tm, rfl, rfl, I⟩ := I
  obtain ⟨h1, h2, h3, h4, h5, h6, h7, h8, h9⟩ := I
  by_cases hs : xs = 1
  · have h9 := h9 hs
    refine br_t hs ?_
    rcases pk_ix v1 (n := R) (by omega) with h | h | ⟨j, hj, rfl⟩
    · exact xw_irn _ _ (Or.inl h) (br_t rfl (br_t hs (br_t h ⟨rfl, I'⟩)))
    · exact xw_irn _ _ (Or.inr h) (br_t rfl (br_t hs (br_c (fun _ => ⟨rfl, I'⟩) (fun _ => br_f (Int32.not_lt.mpr h) ⟨rfl, I'⟩))))
    · have vi : vp_in (nI j) 4 := vp_in_nI (by omega) (by omega)
      have ec : (nI j).toNatClampNeg = j := nI_clamp (by omega)
      refine xw_irt _ h4 hj (br_f (by decide) ⟨vi, xw_sz _ _ ?_⟩)
      rw [ec, h9 j hj]
      refine br_t hs (br_f (nI_pos (by omega)) (br_t (nI_lt hj (by omega)) ?_))
      refine rf_lp (fun n i r => wY_instanceSize_28 _ (nI j) (nI N) (nI R) (nI T) (nI (rf_hg tk T)) xs ar md tk ta tt sT sM ns cu vs eT tm n r (nI i)) (fun i r => r + ((ns j >>> (nI i &&& 31)) &&& 1)) 16 0 (fun n => br_t (by decide) ⟨rfl, I'⟩) (fun n i r hi hn => ?_)
      refine br_f (nI_ge (b := 16) hi (by decide)) ⟨vi, ?_⟩
      rw [ec]
      exact nm_e (nm_r (nI_1 i) hn)
  · exact br_f hs (br_f hs ⟨rfl, I'⟩)
