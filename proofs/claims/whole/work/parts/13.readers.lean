/-! readers of the state: relations, tuples, free tuples -/
section
variable {xn xr xt xd xs xp xe : Int32} {ar rq ex tk ta sp sT sM hd pR pB vl md tt ns cu vs eT tm : Nat → Int32}
theorem xw_irn {R : Nat} (post : Int32 → Prop) (q : Int32) (h : q < 0 ∨ nI R ≤ q) (hp : post 0) : wpX_isRelation post (xn, nI R, xt, xd, xs, xp, xe, ar, rq, ex, tk, ta, sp, sT, sM, hd, pR, pB, vl) q :=
  br_c (fun _ => hp) (fun hn => br_t (h.resolve_left hn) hp)
theorem xw_irt {R j : Nat} (post : Int32 → Prop) (hR : R ≤ 4) (hj : j < R) (hp : post 1) : wpX_isRelation post (xn, nI R, xt, xd, xs, xp, xe, ar, rq, ex, tk, ta, sp, sT, sM, hd, pR, pB, vl) (nI j) :=
  br_f (nI_pos (by omega)) (br_f (nI_ge hj (by omega)) hp)
theorem xw_ian {N : Nat} (post : Int32 → Prop) (q : Int32) (h : q < 0 ∨ nI N ≤ q) (hp : post 0) : wpX_isAtom post (nI N, xr, xt, xd, xs, xp, xe, ar, rq, ex, tk, ta, sp, sT, sM, hd, pR, pB, vl) q :=
  br_c (fun _ => hp) (fun hn => br_t (h.resolve_left hn) hp)
theorem xw_iat {N j : Nat} (post : Int32 → Prop) (hN : N ≤ 4) (hj : j < N) (hp : post 1) : wpX_isAtom post (nI N, xr, xt, xd, xs, xp, xe, ar, rq, ex, tk, ta, sp, sT, sM, hd, pR, pB, vl) (nI j) :=
  br_f (nI_pos (by omega)) (br_f (nI_ge hj (by omega)) hp)
theorem rl_cl {j : Nat} (h : j < 2 ^ 31) (f : Nat → Int32) : f (nI j).toNatClampNeg = f j := by rw [nI_clamp h]
/-- a tuple: its bit, or nothing, on both sides -/
theorem rl_tup {N R : Nat} (hN : N ≤ 4) (hR : R ≤ 4) (q a b : Int32) :
    (∃ j i : Nat, j < R ∧ i < 16 ∧ q = nI j ∧ rf_vt N (ar j) i = true
      ∧ (∀ post : Int32 → Prop, post ((1 : Int32) <<< (nI i &&& 31)) → wpX_tupleBit post (nI N, nI R, xt, xd, xs, xp, xe, ar, rq, ex, tk, ta, sp, sT, sM, hd, pR, pB, vl) q a b)
      ∧ (∀ post : Int32 → Prop, post 1 → wpY_tupleOk post (nI N, nI R, xt, xd, xs, ar, md, tk, ta, tt, sT, sM, ns, cu, vs, eT, tm) q a b)
      ∧ ((q * 16) + (a * 4)) + b = nI (j * 16 + rf_tc (ar j) i)
      ∧ (ar j = 1 → a = nI i) ∧ (¬ ar j = 1 → (a * 4) + b = nI i))
    ∨ ((∀ post : Int32 → Prop, post 0 → wpX_tupleBit post (nI N, nI R, xt, xd, xs, xp, xe, ar, rq, ex, tk, ta, sp, sT, sM, hd, pR, pB, vl) q a b)
      ∧ (∀ post : Int32 → Prop, post 0 → wpY_tupleOk post (nI N, nI R, xt, xd, xs, ar, md, tk, ta, tt, sT, sM, ns, cu, vs, eT, tm) q a b)) := by
  rcases pk_ix q (n := R) (by omega) with h | h | ⟨j, hj, rfl⟩
  · exact Or.inr ⟨fun post hp => (by unfold wpX_tupleBit; dsimp only; exact xw_irn _ q (Or.inl h) (br_t rfl hp)), fun post hp => br_t h hp⟩
  · exact Or.inr ⟨fun post hp => (by unfold wpX_tupleBit; dsimp only; exact xw_irn _ q (Or.inr h) (br_t rfl hp)), fun post hp => br_c (fun _ => hp) (fun _ => br_f (Int32.not_lt.mpr h) hp)⟩
  · have q0 : ¬ nI j < 0 := nI_pos (by omega)
    have q1 : nI j < nI R := nI_lt hj (by omega)
    rcases pk_ix a (n := N) (by omega) with h | h | ⟨x, hx, rfl⟩
    · exact Or.inr ⟨fun post hp => (by unfold wpX_tupleBit; dsimp only; exact xw_irt _ hR hj (br_f (by decide) (xw_ian _ a (Or.inl h) (br_t rfl hp)))), fun post hp => br_f q0 (br_t q1 (br_t h hp))⟩
    · exact Or.inr ⟨fun post hp => (by unfold wpX_tupleBit; dsimp only; exact xw_irt _ hR hj (br_f (by decide) (xw_ian _ a (Or.inr h) (br_t rfl hp)))), fun post hp => br_f q0 (br_t q1 (br_c (fun _ => hp) (fun _ => br_f (Int32.not_lt.mpr h) hp)))⟩
    · have a0 : ¬ nI x < 0 := nI_pos (by omega)
      have a1 : nI x < nI N := nI_lt hx (by omega)
      have vi : vp_in (nI j) 4 := vp_in_nI (by omega) (by omega)
      have ej : ar (nI j).toNatClampNeg = ar j := rl_cl (by omega) ar
      by_cases hr : ar j = 1
      · have hr' : ar (nI j).toNatClampNeg = 1 := ej.trans hr
        by_cases hb : b = 0
        · refine Or.inl ⟨j, x, hj, by omega, rfl, (rf_vt1 hr).mpr hx, ?_, ?_, ?_, fun _ => rfl, fun z => absurd hr z⟩
          · exact fun post hp => by unfold wpX_tupleBit; dsimp only; exact xw_irt _ hR hj (br_f (by decide) (xw_iat _ hN hx (br_f (by decide) ⟨vi, br_t hr' (br_t hb hp)⟩)))
          · exact fun post hp => br_f q0 (br_t q1 (br_f a0 (br_t a1 ⟨vi, br_t hr' (br_t hb hp)⟩)))
          · unfold rf_tc
            rw [hb, if_pos hr, rf_16, rf_4, nI_add, Int32.add_zero]
        · refine Or.inr ⟨?_, ?_⟩
          · exact fun post hp => by unfold wpX_tupleBit; dsimp only; exact xw_irt _ hR hj (br_f (by decide) (xw_iat _ hN hx (br_f (by decide) ⟨vi, br_t hr' (br_f hb hp)⟩)))
          · exact fun post hp => br_f q0 (br_t q1 (br_f a0 (br_t a1 ⟨vi, br_t hr' (br_f hb hp)⟩)))
      · have hr' : ¬ ar (nI j).toNatClampNeg = 1 := fun z => hr (ej.symm.trans z)
        rcases pk_ix b (n := N) (by omega) with h | h | ⟨y, hy, rfl⟩
        · refine Or.inr ⟨?_, ?_⟩
          · exact fun post hp => by unfold wpX_tupleBit; dsimp only; exact xw_irt _ hR hj (br_f (by decide) (xw_iat _ hN hx (br_f (by decide) ⟨vi, br_f hr' (xw_ian _ b (Or.inl h) (br_t rfl hp))⟩)))
          · exact fun post hp => br_f q0 (br_t q1 (br_f a0 (br_t a1 ⟨vi, br_f hr' (br_t h hp)⟩)))
        · refine Or.inr ⟨?_, ?_⟩
          · exact fun post hp => by unfold wpX_tupleBit; dsimp only; exact xw_irt _ hR hj (br_f (by decide) (xw_iat _ hN hx (br_f (by decide) ⟨vi, br_f hr' (xw_ian _ b (Or.inr h) (br_t rfl hp))⟩)))
          · exact fun post hp => br_f q0 (br_t q1 (br_f a0 (br_t a1 ⟨vi, br_f hr' (br_c (fun _ => hp) (fun _ => br_t h hp))⟩)))
        · have ei : (nI x * 4) + nI y = nI (x * 4 + y) := by rw [rf_4, nI_add]
          refine Or.inl ⟨j, x * 4 + y, hj, by omega, rfl, (rf_vt2 hr).mpr ⟨by omega, by omega, by omega⟩, ?_, ?_, ?_, fun z => absurd z hr, fun _ => ei⟩
          · intro post hp
            unfold wpX_tupleBit
            dsimp only
            rw [ei]
            exact xw_irt _ hR hj (br_f (by decide) (xw_iat _ hN hx (br_f (by decide) ⟨vi, br_f hr' (xw_iat _ hN hy (br_f (by decide) hp))⟩)))
          · exact fun post hp => br_f q0 (br_t q1 (br_f a0 (br_t a1 ⟨vi, br_f hr' (br_f (nI_pos (by omega)) (br_f (nI_ge hy (by omega)) hp))⟩)))
          · unfold rf_tc
            rw [if_neg hr, rf_16, rf_4, nI_add, nI_add, Nat.add_assoc]
theorem xw_ft {N j : Nat} (post : Int32 → Prop) (hj : j < 4) (hp : post (rf_ft N (ar j) (rq j) (ex j))) : wpX_freeTuples post (nI N, xr, xt, xd, xs, xp, xe, ar, rq, ex, tk, ta, sp, sT, sM, hd, pR, pB, vl) (nI j) := by
  have vi : vp_in (nI j) 4 := vp_in_nI (by omega) (by omega)
  have ec : (nI j).toNatClampNeg = j := nI_clamp (by omega)
  unfold wpX_freeTuples wpX_allAtoms wX_freeTuples_24
  dsimp only
  rw [ec]
  unfold rf_ft at hp
  by_cases hr : ar j = 1
  · rw [if_pos hr] at hp
    exact ⟨vi, br_t hr ⟨vi, vi, hp⟩⟩
  · rw [if_neg hr] at hp
    exact ⟨vi, br_f hr (xw_pr _ _ _ ⟨vi, vi, hp⟩)⟩
theorem xw_fc {N R : Nat} (hN : N ≤ 4) (hR : R ≤ 4) (hb : rf_bd N ar md rq ex) (post : Int32 → Prop) (hp : post (nI (rf_cn (rf_fq N ar md) (R * 16)))) : wpX_freeCount post (nI N, nI R, xt, xd, xs, xp, xe, ar, rq, ex, tk, ta, sp, sT, sM, hd, pR, pB, vl) := by
  refine loop_0 (fun n i r => wX_freeCount_4 post (nI N) (nI R) xt xd xs xp xe ar rq ex tk ta sp sT sM hd pR pB vl n r (nI i)) (fun i r => r = nI (rf_cn (rf_fq N ar md) (i * 16))) R 0 nI_0.symm (fun n s h => ?_) (fun n i s hi h k => ?_)
  · refine br_t (nI_le (Nat.le_refl R) (by omega)) ?_
    rw [h]
    exact hp
  · refine br_f (nI_ge hi (by omega)) (xw_ft _ (by omega) (xw_sz _ _ ?_))
    refine nm_r (e' := nI (rf_cn (rf_fq N ar md) ((i + 1) * 16))) ?_ (nm_r (nI_1 i) (k _ rfl))
    rw [h]
    exact rf_szf hN hb (by omega)
theorem xw_id {N : Nat} (hN : N ≤ 4) (post : Int32 → Prop) (hp : post (rf_id N)) : wpX_identity post (nI N, xr, xt, xd, xs, xp, xe, ar, rq, ex, tk, ta, sp, sT, sM, hd, pR, pB, vl) := by
  refine rf_lo (fun n i r => wX_identity_4 post (nI N) xr xt xd xs xp xe ar rq ex tk ta sp sT sM hd pR pB vl n r (nI i)) (fun a => (1 : Int32) <<< (nI (a * 5) &&& 31)) N 0 (fun n => br_t (nI_le (Nat.le_refl N) (by omega)) hp) (fun n i r hi hn => ?_)
  refine br_f (nI_ge hi (by omega)) (nm_r ?_ (nm_r (nI_1 i) hn))
  rw [rf_4, nI_add, show i * 4 + i = i * 5 by omega]
theorem xw_lf {N R e : Nat} (hN : N ≤ 4) (hR : R ≤ 4) (he : e < 64) (post : Int32 → Prop) (k a : Int32) (hk : k = 1 ∨ k = 2 ∨ k = 3 ∨ k = 4) (hr : k = 1 → ∃ q : Nat, q < R ∧ a = nI q) (hv : k = 2 → ∃ v : Nat, v < 3 ∧ a = nI v) (hp : post (rf_lf N hd k a e)) : wpX_valueOfLeaf post (nI N, xr, xt, xd, xs, xp, xe, ar, rq, ex, tk, ta, sp, sT, sM, hd, pR, pB, vl) k a (nI e) := by
  rcases hk with rfl | rfl | rfl | rfl
  · obtain ⟨q, hq, rfl⟩ := hr rfl
    exact br_f (by decide) (br_f (by decide) (br_t rfl ⟨vp_in_nI (by omega) (by omega), hp⟩))
  · obtain ⟨v, hv3, rfl⟩ := hv rfl
    have hp : post ((1 : Int32) <<< (nI (rf_dg (nI v).toNatClampNeg e) &&& 31)) := hp
    rw [nI_clamp (show v < 2 ^ 31 by omega), ← rf_dgI v hv3 e he, ← rf_2] at hp
    exact br_f (by decide) (br_f (by decide) (br_f (by decide) (br_t rfl hp)))
  · exact br_f (by decide) (br_f (by decide) (br_f (by decide) (br_f (by decide) (br_t rfl hp))))
  · exact br_f (by decide) (br_t (by decide) (xw_id hN _ hp))
end
