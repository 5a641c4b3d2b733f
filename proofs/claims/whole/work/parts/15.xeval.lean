/-! X's evaluation of one token -/
section
variable {xn xr xt xd xs xp xe : Int32} {ar rq ex tk ta sp sT sM hd pR pB vl md tt ns cu vs eT tm : Nat → Int32}
theorem xw_e0 {N R E s : Nat} (hN : N ≤ 4) (hR : R ≤ 4) (hE : E ≤ 64) (hs : s < 32) (post : SX → Prop) (st a : Int32) (hk : st = 1 ∨ st = 2 ∨ st = 3 ∨ st = 4) (hr : st = 1 → ∃ q : Nat, q < R ∧ a = nI q) (hv : st = 2 → ∃ v : Nat, v < 3 ∧ a = nI v) (hp : post (nI N, xr, xt, xd, xs, xp, nI E, ar, rq, ex, tk, ta, sp, sT, sM, hd, pR, pB, rf_bk vl (s * 64) E (rf_gx N hd st a 0 vl (s * 64)))) :
    ∃ n, wX_evaluateToken_37 post (nI 0) (nI (s * 64)) st a (nI N) xr xt xd xs xp (nI E) n 0 ar rq ex tk ta sp sT sM hd pR pB vl := by
  refine loop_0 (fun n e w => wX_evaluateToken_37 post (nI 0) (nI (s * 64)) st a (nI N) xr xt xd xs xp (nI E) n (nI e) ar rq ex tk ta sp sT sM hd pR pB w) (fun e w => w = rf_bk vl (s * 64) e (rf_gx N hd st a 0 vl (s * 64))) E vl (rf_bk0 _ _ _).symm (fun n w h => br_t (nI_le (Nat.le_refl E) (by omega)) (by rw [h]; exact hp)) (fun n e w he h k => ?_)
  refine br_f (nI_ge he (by omega)) (nm_r (e' := nI (s * 64 + e)) (nI_add _ _) (br_t nI_0 (xw_lf hN hR (by omega) _ st a hk hr hv ?_)))
  refine ⟨vp_in_nI (by omega) (by omega), nm_r (e' := rf_bk vl (s * 64) (e + 1) (rf_gx N hd st a 0 vl (s * 64))) ?_ (nm_r (nI_1 e) (k _ rfl))⟩
  rw [h, nI_clamp (show s * 64 + e < 2 ^ 31 by omega)]
  exact rf_bks vl (s * 64) e (rf_gx N hd st a 0 vl (s * 64))
theorem xw_e1 {N E s : Nat} (hE : E ≤ 64) (hs : s < 32) (post : SX → Prop) (st a : Int32) (hk : st = 10 ∨ st = 11 ∨ st = 14 ∨ st = 15 ∨ st = 16 ∨ st = 17) (hp : post (nI N, xr, xt, xd, xs, xp, nI E, ar, rq, ex, tk, ta, sp, sT, sM, hd, pR, pB, rf_bk vl (s * 64) E (rf_gx N hd st a 1 vl (s * 64)))) :
    ∃ n, wX_evaluateToken_37 post (nI 1) (nI (s * 64)) st a (nI N) xr xt xd xs xp (nI E) n 0 ar rq ex tk ta sp sT sM hd pR pB vl := by
  refine loop_0 (fun n e w => wX_evaluateToken_37 post (nI 1) (nI (s * 64)) st a (nI N) xr xt xd xs xp (nI E) n (nI e) ar rq ex tk ta sp sT sM hd pR pB w) (fun e w => w = rf_bk vl (s * 64) e (rf_gx N hd st a 1 vl (s * 64))) E vl (rf_bk0 _ _ _).symm (fun n w h => br_t (nI_le (Nat.le_refl E) (by omega)) (by rw [h]; exact hp)) (fun n e w he h k => ?_)
  have ec : (nI (s * 64 + e)).toNatClampNeg = s * 64 + e := nI_clamp (by omega)
  have vi : vp_in (nI (s * 64 + e)) 2048 := vp_in_nI (by omega) (by omega)
  have er : w (nI (s * 64 + e)).toNatClampNeg = vl (s * 64 + e) := by
    rw [ec, h]
    exact rf_bko (Or.inr (by omega))
  refine br_f (nI_ge he (by omega)) (nm_r (e' := nI (s * 64 + e)) (nI_add _ _) (br_f (by decide) (br_t rfl ⟨vi, ?_⟩)))
  rw [er]
  refine xw_x1 _ st _ hk ⟨vi, nm_r (e' := rf_bk vl (s * 64) (e + 1) (rf_gx N hd st a 1 vl (s * 64))) ?_ (nm_r (nI_1 e) (k _ rfl))⟩
  rw [h, ec]
  exact rf_bks vl (s * 64) e (rf_gx N hd st a 1 vl (s * 64))
theorem xw_e2 {N E s : Nat} (hE : E ≤ 64) (hs : s < 31) (post : SX → Prop) (st a : Int32) (hk : st = 5 ∨ st = 6 ∨ st = 7 ∨ st = 9 ∨ st = 12 ∨ st = 13 ∨ st = 18 ∨ st = 19 ∨ st = 20 ∨ st = 23 ∨ st = 24 ∨ st = 25) (hp : post (nI N, xr, xt, xd, xs, xp, nI E, ar, rq, ex, tk, ta, sp, sT, sM, hd, pR, pB, rf_bk vl (s * 64) E (rf_gx N hd st a 2 vl (s * 64)))) :
    ∃ n, wX_evaluateToken_37 post (nI 2) (nI (s * 64)) st a (nI N) xr xt xd xs xp (nI E) n 0 ar rq ex tk ta sp sT sM hd pR pB vl := by
  refine loop_0 (fun n e w => wX_evaluateToken_37 post (nI 2) (nI (s * 64)) st a (nI N) xr xt xd xs xp (nI E) n (nI e) ar rq ex tk ta sp sT sM hd pR pB w) (fun e w => w = rf_bk vl (s * 64) e (rf_gx N hd st a 2 vl (s * 64))) E vl (rf_bk0 _ _ _).symm (fun n w h => br_t (nI_le (Nat.le_refl E) (by omega)) (by rw [h]; exact hp)) (fun n e w he h k => ?_)
  have ec : (nI (s * 64 + e)).toNatClampNeg = s * 64 + e := nI_clamp (by omega)
  have vi : vp_in (nI (s * 64 + e)) 2048 := vp_in_nI (by omega) (by omega)
  have e64 : nI (s * 64 + e) + 64 = nI (s * 64 + e + 64) := nI_add _ 64
  have er : w (nI (s * 64 + e)).toNatClampNeg = vl (s * 64 + e) := by
    rw [ec, h]
    exact rf_bko (Or.inr (by omega))
  have er2 : w (nI (s * 64 + e + 64)).toNatClampNeg = vl (s * 64 + e + 64) := by
    rw [nI_clamp (by omega), h]
    exact rf_bko (Or.inr (by omega))
  refine br_f (nI_ge he (by omega)) (nm_r (e' := nI (s * 64 + e)) (nI_add _ _) (br_f (by decide) (br_f (by decide) ⟨vi, ?_⟩)))
  rw [er, e64, er2]
  refine ⟨vp_in_nI (by omega) (by omega), xw_x2 _ st _ _ hk ⟨vi, nm_r (e' := rf_bk vl (s * 64) (e + 1) (rf_gx N hd st a 2 vl (s * 64))) ?_ (nm_r (nI_1 e) (k _ rfl))⟩⟩
  rw [h, ec]
  exact rf_bks vl (s * 64) e (rf_gx N hd st a 2 vl (s * 64))
theorem xw_qu {N E s v : Nat} (hN : N ≤ 4) (hE : E ≤ 64) (hs : s < 32) (hv : v < 3) (post : SX → Prop) (k : Int32) (hp : ∀ w, rf_qi N k v (s * 64) vl E w → post (nI N, xr, xt, xd, xs, xp, nI E, ar, rq, ex, tk, ta, sp, sT, sM, hd, pR, pB, w)) : wpX_quantify post (nI N, xr, xt, xd, xs, xp, nI E, ar, rq, ex, tk, ta, sp, sT, sM, hd, pR, pB, vl) k (nI v) (nI (s * 64)) := by
  refine nm_r (rf_2 v) ?_
  refine loop_0 (fun n env w => wX_quantify_8 post k (nI (s * 64)) (nI (2 * v)) (nI N) xr xt xd xs xp (nI E) n (nI env) ar rq ex tk ta sp sT sM hd pR pB w) (fun env w => rf_qi N k v (s * 64) vl env w) E vl (rf_qi0 N k v (s * 64) vl) (fun n w h => br_t (nI_le (Nat.le_refl E) (by omega)) (hp w h)) (fun n env w he h kk => ?_)
  refine br_f (nI_ge he (by omega)) ?_
  rw [rf_dgI v hv env (by omega)]
  by_cases hd0 : rf_dg v env = 0
  · rw [hd0]
    refine br_t nI_0 ?_
    have hix : ∀ a, a < N → (nI (s * 64) + nI env) + (nI a <<< (nI (2 * v) &&& 31)) = nI (s * 64 + env + a * 4 ^ v) ∧ vp_in (nI (s * 64 + env + a * 4 ^ v)) 2048 ∧ (nI (s * 64 + env + a * 4 ^ v)).toNatClampNeg = s * 64 + env + a * 4 ^ v := by
      intro a ha
      obtain ⟨_, _, c3⟩ := rf_cs v hv env (by omega) a (by omega) hd0
      exact ⟨by rw [rf_asI v hv a (by omega), nI_add, nI_add], vp_in_nI (by omega) (by omega), nI_clamp (by omega)⟩
    refine rf_lp (fun m a r => wX_quantify_36 post (wX_quantify_8 post k (nI (s * 64)) (nI (2 * v)) (nI N) xr xt xd xs xp (nI E) n) k (nI (s * 64)) (nI (2 * v)) (nI env) (nI N) xr xt xd xs xp (nI E) ar rq ex tk ta sp sT sM hd pR pB w m r (nI a)) (fun a r => r + vl (s * 64 + env + a * 4 ^ v)) N 0 (fun m => ?_) (fun m a r ha hm => ?_)
    · refine br_t (nI_le (Nat.le_refl N) (by omega)) ?_
      have hsm : rf_it (fun a r => r + vl (s * 64 + env + a * 4 ^ v)) 0 N = rf_sm N (fun a => vl (s * 64 + env + a * 4 ^ v)) := rfl
      rw [hsm]
      have wr : ∀ x8 : Int32, x8 = rf_rs N k v (s * 64) vl env → ∃ n104, wX_quantify_104 post (wX_quantify_8 post k (nI (s * 64)) (nI (2 * v)) (nI N) xr xt xd xs xp (nI E) n) k (nI (s * 64)) (nI (2 * v)) (nI env) x8 (nI N) xr xt xd xs xp (nI E) n104 0 ar rq ex tk ta sp sT sM hd pR pB w := by
        intro x8 e8
        refine loop_0 (fun m a w' => wX_quantify_104 post (wX_quantify_8 post k (nI (s * 64)) (nI (2 * v)) (nI N) xr xt xd xs xp (nI E) n) k (nI (s * 64)) (nI (2 * v)) (nI env) x8 (nI N) xr xt xd xs xp (nI E) m (nI a) ar rq ex tk ta sp sT sM hd pR pB (w')) (fun a w' => rf_qj N k v (s * 64) vl env a w') N w (rf_qij h) (fun m w' h' => br_t (nI_le (Nat.le_refl N) (by omega)) (nm_r (nI_1 env) (kk _ (rf_qji h')))) (fun m a w' ha h' k2 => ?_)
        obtain ⟨i1, i2, i3⟩ := hix a ha
        refine br_f (nI_ge ha (by omega)) ?_
        rw [i1, i3]
        exact ⟨i2, nm_r (e' := upd w' (s * 64 + env + a * 4 ^ v) (rf_rs N k v (s * 64) vl env)) (by rw [e8]) (nm_r (nI_1 a) (k2 _ (rf_qjs hN hv (by omega) hd0 ha h')))⟩
      by_cases hk : k = 21
      · refine br_t hk ?_
        by_cases hl : nI N ≤ rf_sm N (fun a => vl (s * 64 + env + a * 4 ^ v))
        · exact br_f (Int32.not_lt.mpr hl) (wr 1 (by unfold rf_rs; rw [if_pos hk, if_pos hl]))
        · exact br_t (Int32.not_le.mp hl) (wr 0 (by unfold rf_rs; rw [if_pos hk, if_neg hl]))
      · refine br_f hk ?_
        by_cases hl : 1 ≤ rf_sm N (fun a => vl (s * 64 + env + a * 4 ^ v))
        · exact br_f (Int32.not_lt.mpr hl) (wr 1 (by unfold rf_rs; rw [if_neg hk, if_pos hl]))
        · exact br_t (Int32.not_le.mp hl) (wr 0 (by unfold rf_rs; rw [if_neg hk, if_neg hl]))
    · obtain ⟨i1, i2, i3⟩ := hix a ha
      have hm : wX_quantify_36 post (wX_quantify_8 post k (nI (s * 64)) (nI (2 * v)) (nI N) xr xt xd xs xp (nI E) n) k (nI (s * 64)) (nI (2 * v)) (nI env) (nI N) xr xt xd xs xp (nI E) ar rq ex tk ta sp sT sM hd pR pB w m (r + vl (s * 64 + env + a * 4 ^ v)) (nI (a + 1)) := hm
      refine br_f (nI_ge ha (by omega)) ?_
      rw [i1, i3]
      exact ⟨i2, nm_r (by rw [rf_qir hN hv (by omega) hd0 ha h]) (nm_r (nI_1 a) hm)⟩
  · exact br_f (nI_ne0 (by omega) (by have := (rf_cd v hv env (by omega)).2.1; omega)) (nm_r (nI_1 env) (kk _ (rf_qin hv hd0 h)))
theorem rf_spg {k lt rt : Int32} (h : k = 5 ∨ k = 6 ∨ k = 7 ∨ k = 8 ∨ k = 9 ∨ k = 12 ∨ k = 13 ∨ k = 18 ∨ k = 19 ∨ k = 20) : rf_sp k lt rt = 5 ∨ rf_sp k lt rt = 6 ∨ rf_sp k lt rt = 7 ∨ rf_sp k lt rt = 9 ∨ rf_sp k lt rt = 12 ∨ rf_sp k lt rt = 13 ∨ rf_sp k lt rt = 18 ∨ rf_sp k lt rt = 19 ∨ rf_sp k lt rt = 20 ∨ rf_sp k lt rt = 23 ∨ rf_sp k lt rt = 24 ∨ rf_sp k lt rt = 25 := by
  by_cases h8 : k = 8
  · unfold rf_sp
    rw [if_pos h8]
    by_cases hl : lt = 1
    · rw [if_pos hl]
      decide
    · rw [if_neg hl]
      by_cases hr : rt = 1
      · rw [if_pos hr]
        decide
      · rw [if_neg hr]
        decide
  · rw [rf_sp0 h8]
    rcases h with rfl | rfl | rfl | rfl | rfl | rfl | rfl | rfl | rfl | rfl
    case inr.inr.inr.inl => exact absurd rfl h8
    all_goals decide
theorem rf_spn {k lt rt : Int32} (h : rf_kd k) : (rf_sp k lt rt = 21 ∨ rf_sp k lt rt = 22) ↔ (k = 21 ∨ k = 22) := by
  by_cases h8 : k = 8
  · unfold rf_sp
    rw [if_pos h8, h8]
    by_cases hl : lt = 1
    · rw [if_pos hl]
      decide
    · rw [if_neg hl]
      by_cases hr : rt = 1
      · rw [if_pos hr]
        decide
      · rw [if_neg hr]
        decide
  · rw [rf_sp0 h8]
theorem xw_ev {N R E g i h : Nat} (h1 : 1 ≤ N) (hN : N ≤ 4) (hR : R ≤ 4) (hg : g ≤ 3) (hEg : E = 4 ^ g) (hi : i < 32) (hh : h ≤ i) {ty cur : Nat → Int32} {S : Nat → Nat → Int32} {k tt : Int32} (hw : rf_wf R ar ty h k (ta i) tt (sp i)) (hvg : k = 2 ∨ k = 21 ∨ k = 22 → ∀ v : Nat, ta i = nI v → v < 3 → v < g) (hS : rf_St N h ty S) (he : ∀ q, q < R → hd q = cur q) (hA : rf_ag N E h vl S) (post : SX → Prop)
    (hp : ∀ w, rf_ag N E (h - rf_pp k + 1) w (fun t e => if t = h - rf_pp k then rf_nv N cur k (ta i) (rf_lt k ty h) (rf_rr k ty h) S t e else S t e) → post (nI N, xr, xt, xd, xs, xp, nI E, ar, rq, ex, tk, ta, sp, sT, sM, hd, pR, pB, w)) :
    wpX_evaluateToken post (nI N, xr, xt, xd, xs, xp, nI E, ar, rq, ex, tk, ta, sp, sT, sM, hd, pR, pB, vl) (nI i) (nI (rf_pp k)) (nI ((h - rf_pp k) * 64)) := by
  have hE64 : E ≤ 64 := by
    rw [hEg]
    have hc : g = 0 ∨ g = 1 ∨ g = 2 ∨ g = 3 := by omega
    rcases hc with rfl | rfl | rfl | rfl <;> decide
  have hpp := hw.2.1
  have vi : vp_in (nI i) 32 := vp_in_nI (by omega) (by omega)
  have ec : (nI i).toNatClampNeg = i := nI_clamp (by omega)
  unfold wpX_evaluateToken
  dsimp only
  rw [ec]
  refine ⟨vi, nm_e ⟨vi, nm_e (xw_iq _ _ ?_)⟩⟩
  have hst : sp i = rf_sp k (rf_lt k ty h) (rf_rr k ty h) := hw.2.2.2.2.2.2
  have hqn : (sp i = 21 ∨ sp i = 22) ↔ (k = 21 ∨ k = 22) := by
    rw [hst]
    exact rf_spn hw.1
  by_cases hq : k = 21 ∨ k = 22
  · rw [if_pos (hqn.mpr hq)]
    refine br_f (by decide) ?_
    have hp1 : rf_pp k = 1 := by rcases hq with rfl | rfl <;> decide +kernel
    have hsk : sp i = k := by
      rw [hst]
      rcases hq with rfl | rfl <;> rfl
    obtain ⟨v, hv, hva⟩ := hw.2.2.2.2.2.1 (Or.inr hq)
    rw [hsk, hva, hp1]
    refine xw_qu hN hE64 (by omega) hv _ k (fun w hqi => hp w ?_)
    rw [hp1]
    refine rf_agp hE64 hA (by omega) (fun j hj => hqi.1 j (Or.inl hj)) ?_
    rw [hva]
    rw [hva] at hw
    exact rf_xqag h1 hN hg hEg hw hq (hvg (Or.inr hq) v hva hv) rfl hS hA hqi
  · rw [if_neg (fun z => hq (hqn.mp z))]
    refine br_t rfl ?_
    have hpn : post (nI N, xr, xt, xd, xs, xp, nI E, ar, rq, ex, tk, ta, sp, sT, sM, hd, pR, pB, rf_bk vl ((h - rf_pp k) * 64) E (rf_gx N hd (sp i) (ta i) (rf_pp k) vl ((h - rf_pp k) * 64))) := by
      apply hp
      refine rf_agp hE64 hA (by omega) (fun j hj => rf_bko (Or.inl hj)) ?_
      intro e he' hgd
      rw [rf_bki he']
      exact rf_xag hN hR hE64 hw hq hS he hA e he' hgd
    rcases rf_kg hw.1 with hk | hk | hk | hk
    · have hp0 := rf_pp0 hk
      have hsk : sp i = k := by
        rw [hst]
        rcases hk with rfl | rfl | rfl | rfl <;> rfl
      rw [hp0] at hpn ⊢
      exact xw_e0 hN hR hE64 (by omega) post (sp i) (ta i) (by rw [hsk]; exact hk) (by rw [hsk]; exact hw.2.2.2.2.1) (by rw [hsk]; exact fun z => hw.2.2.2.2.2.1 (Or.inl z)) hpn
    · have hp1 := (rf_pp1 hk).1
      have hsk : sp i = k := by
        rw [hst]
        rcases hk with rfl | rfl | rfl | rfl | rfl | rfl <;> rfl
      rw [hp1] at hpn ⊢
      exact xw_e1 hE64 (by omega) post (sp i) (ta i) (by rw [hsk]; exact hk) hpn
    · have hp2 := (rf_pp2 hk).1
      rw [hp2] at hpn ⊢
      exact xw_e2 hE64 (by omega) post (sp i) (ta i) (by rw [hst]; exact rf_spg hk) hpn
    · exact absurd hk hq
end
