/-! X: positions, environments, assignment, the formula's value -/
theorem rf_4g : ∀ g, g < 4 → (1 : Int32) <<< (nI (2 * g) &&& 31) = nI (4 ^ g) := by decide +kernel
theorem rf_2F : ∀ F, F < 13 → (1 : Int32) <<< (nI F &&& 31) = nI (2 ^ F) := by decide +kernel
section
variable {xn xr xt xd xs xp xe : Int32} {ar rq ex tk ta sp sT sM hd pR pB vl md tt ns cu vs eT tm : Nat → Int32}
theorem xw_lp {N R : Nat} (hN : N ≤ 4) (hR : R ≤ 4) (hb : rf_bd N ar md rq ex) (hF : rf_cn (rf_fq N ar md) (R * 16) ≤ 12) (post : SX → Prop) (hp : ∀ pR' pB', rf_pl N ar md (R * 16) pR' pB' → post (nI N, nI R, xt, xd, xs, nI (rf_cn (rf_fq N ar md) (R * 16)), xe, ar, rq, ex, tk, ta, sp, sT, sM, hd, pR', pB', vl)) : wpX_listPositions post (nI N, nI R, xt, xd, xs, xp, xe, ar, rq, ex, tk, ta, sp, sT, sM, hd, pR, pB, vl) := by
  refine loop_0 (fun n q (z : Int32 × (Nat → Int32) × (Nat → Int32)) => wX_listPositions_7 post (nI N) (nI R) xt xd xs xe n (nI q) z.1 ar rq ex tk ta sp sT sM hd z.2.1 z.2.2 vl) (fun q z => z.1 = nI (rf_cn (rf_fq N ar md) (q * 16)) ∧ rf_pl N ar md (q * 16) z.2.1 z.2.2) R (0, pR, pB) ⟨nI_0.symm, by rw [Nat.zero_mul]; exact rf_pl0 _ _ _ _ _⟩ (fun n z h => br_t (nI_le (Nat.le_refl R) (by omega)) (by rw [h.1]; exact hp _ _ h.2)) (fun n q z hq h k => ?_)
  refine br_f (nI_ge hq (by omega)) (xw_ft _ (by omega) ?_)
  refine loop_0 (fun m t (y : Int32 × (Nat → Int32) × (Nat → Int32)) => wX_listPositions_23 post (wX_listPositions_7 post (nI N) (nI R) xt xd xs xe n) (nI q) (rf_ft N (ar q) (rq q) (ex q)) (nI N) (nI R) xt xd xs xe m (nI t) y.1 ar rq ex tk ta sp sT sM hd y.2.1 y.2.2 vl) (fun t y => y.1 = nI (rf_cn (rf_fq N ar md) (q * 16 + t)) ∧ rf_pl N ar md (q * 16 + t) y.2.1 y.2.2) 16 z h (fun m y hy => ?_) (fun m t y ht hy kk => ?_)
  · refine br_t (by decide) (nm_r (nI_1 q) (k y ?_))
    rw [show (q + 1) * 16 = q * 16 + 16 by omega]
    exact hy
  · have hft := rf_ftb hN hb (show q < 4 by omega) t (by omega)
    rw [← rf_fqi N ar md q t ht] at hft
    refine br_f (nI_ge (b := 16) ht (by decide)) ?_
    by_cases hf : rf_fq N ar md (q * 16 + t) = true
    · have hlt := rf_cnlt (rf_fq N ar md) (show q * 16 + t < R * 16 by omega) hf
      refine br_f (fun z => (rf_bz _ t (by omega)).mp z (by rw [hft]; exact hf)) ?_
      have e16 : (q * 16 + t) / 16 = q := by omega
      have em : (q * 16 + t) % 16 = t := by omega
      have hpl := rf_plt hy.2 hf
      rw [e16, em] at hpl
      have vi : vp_in (nI (rf_cn (rf_fq N ar md) (q * 16 + t))) 12 := vp_in_nI (by omega) (by omega)
      rw [hy.1, nI_clamp (show rf_cn (rf_fq N ar md) (q * 16 + t) < 2 ^ 31 by omega)]
      refine br_f (nI_ge (b := 12) (by omega) (by decide)) ⟨vi, nm_e ⟨vi, nm_e (nm_r (nI_1 _) (nm_r (nI_1 t) (kk (_, _, _) ⟨?_, hpl⟩)))⟩⟩
      show nI _ = nI _
      rw [← Nat.add_assoc, rf_cnt hf]
    · refine br_t ((rf_bz _ t (by omega)).mpr (by rw [hft]; exact hf)) (nm_r (nI_1 t) (kk y ⟨?_, rf_pln hy.2 hf⟩))
      rw [← Nat.add_assoc, rf_cnf hf]
      exact hy.1
theorem xw_ce {R T : Nat} (hT : T ≤ 32) {tt : Nat → Int32} (hW : rf_WF R ar tk ta tt sp T) (post : SX → Prop) (hp : ∀ g, g ≤ 3 → (∀ i, i < T → tk i = 2 ∨ tk i = 21 ∨ tk i = 22 → ∀ v : Nat, ta i = nI v → v < 3 → v < g) → post (xn, xr, nI T, xd, xs, xp, nI (4 ^ g), ar, rq, ex, tk, ta, sp, sT, sM, hd, pR, pB, vl)) : wpX_countEnvironments post (xn, xr, nI T, xd, xs, xp, xe, ar, rq, ex, tk, ta, sp, sT, sM, hd, pR, pB, vl) := by
  refine loop_0 (fun n i (z : Int32) => wX_countEnvironments_4 post xn xr (nI T) xd xs xp xe ar rq ex tk ta sp sT sM hd pR pB vl n z (nI i)) (fun i z => ∃ g : Nat, g ≤ 3 ∧ z = nI g ∧ ∀ j, j < i → tk j = 2 ∨ tk j = 21 ∨ tk j = 22 → ∀ v : Nat, ta j = nI v → v < 3 → v < g) T 0 ⟨0, by omega, nI_0.symm, fun j hj => absurd hj (Nat.not_lt_zero j)⟩ (fun n z h => ?_) (fun n i z hi h k => ?_)
  · obtain ⟨g, hg, rfl, hall⟩ := h
    refine br_t (nI_le (Nat.le_refl T) (by omega)) (nm_r (e' := nI (4 ^ g)) ?_ (hp g hg hall))
    rw [rf_2]
    exact rf_4g g (by omega)
  · obtain ⟨g, hg, rfl, hall⟩ := h
    have vi : vp_in (nI i) 32 := vp_in_nI (by omega) (by omega)
    have ec : (nI i).toNatClampNeg = i := nI_clamp (by omega)
    refine br_f (nI_ge hi (by omega)) ?_
    rw [ec]
    refine ⟨vi, xw_nv _ _ ?_⟩
    by_cases hn : tk i = 2 ∨ tk i = 21 ∨ tk i = 22
    · rw [if_pos hn]
      obtain ⟨v, hv, ev⟩ := (hW i hi).2.2.2.2.2.1 hn
      refine br_f (by decide) ⟨vi, ?_⟩
      rw [ev]
      by_cases hvg : v < g
      · refine br_t (nI_lt hvg (by omega)) (nm_r (nI_1 i) (k _ ⟨g, hg, rfl, ?_⟩))
        intro j hj hnj w hw hw3
        by_cases e : j = i
        · subst e
          have e2 : nI v = nI w := ev.symm.trans hw
          rw [nI_eq (by omega) (by omega)] at e2
          omega
        · exact hall j (by omega) hnj w hw hw3
      · refine br_f (nI_nlt (by omega) (by omega)) ⟨vi, nm_r (nI_1 v) (nm_r (nI_1 i) (k _ ⟨v + 1, by omega, rfl, ?_⟩))⟩
        intro j hj hnj w hw hw3
        by_cases e : j = i
        · subst e
          have e2 : nI v = nI w := ev.symm.trans hw
          rw [nI_eq (by omega) (by omega)] at e2
          omega
        · have := hall j (by omega) hnj w hw hw3
          omega
    · rw [if_neg hn]
      refine br_t rfl (nm_r (nI_1 i) (k _ ⟨g, hg, rfl, ?_⟩))
      intro j hj hnj w hw hw3
      by_cases e : j = i
      · subst e
        exact absurd hnj hn
      · exact hall j (by omega) hnj w hw hw3
theorem xw_as {N R F c : Nat} (hN : N ≤ 4) (hR : R ≤ 4) (hF : F ≤ 12) (hb : rf_bd N ar md rq ex) (hFe : F = rf_cn (rf_fq N ar md) (R * 16)) (hpl : rf_pl N ar md (R * 16) pR pB) (post : SX → Prop) (hp : ∀ h, (∀ q, q < R → h q = rf_as N ar md F (nI c) q) → post (xn, nI R, xt, xd, xs, nI F, xe, ar, rq, ex, tk, ta, sp, sT, sM, h, pR, pB, vl)) : wpX_assign post (xn, nI R, xt, xd, xs, nI F, xe, ar, rq, ex, tk, ta, sp, sT, sM, hd, pR, pB, vl) (nI c) := by
  refine loop_0 (fun n q (h : Nat → Int32) => wX_assign_2 post (nI c) xn (nI R) xt xd xs (nI F) xe n (nI q) ar rq ex tk ta sp sT sM h pR pB vl) (fun i h => ∀ q, q < i → h q = rq q) R hd (fun q hq => absurd hq (Nat.not_lt_zero q)) (fun n h hh => ?_) (fun n i h hi hh k => ?_)
  · refine br_t (nI_le (Nat.le_refl R) (by omega)) ?_
    refine loop_0 (fun m i (h : Nat → Int32) => wX_assign_30 post (nI c) xn (nI R) xt xd xs (nI F) xe m (nI i) ar rq ex tk ta sp sT sM h pR pB vl) (fun i h => rf_hi N R F ar md rq (nI c) i h) F h (rf_hi0 hh) (fun m h' hh' => br_t (nI_le (Nat.le_refl F) (by omega)) (hp h' (rf_hie hN hR hb hFe hh'))) (fun m i h' hi hh' kk => ?_)
    have vi : vp_in (nI i) 12 := vp_in_nI (by omega) (by omega)
    have ec : (nI i).toNatClampNeg = i := nI_clamp (by omega)
    have es : (nI F - 1) - nI i = nI (F - 1 - i) := by
      rw [show (1 : Int32) = nI 1 from rfl, pk_sub (by omega), pk_sub (by omega)]
    obtain ⟨z, hz, hf, hx, h3, h4⟩ := hpl i (by omega)
    refine br_f (nI_ge hi (by omega)) ?_
    rw [es, ec, h3, h4, nI_clamp (show z / 16 < 2 ^ 31 by omega)]
    have vq : vp_in (nI (z / 16)) 4 := vp_in_nI (by omega) (by omega)
    by_cases hb : bt (nI c) (F - 1 - i) = true
    · exact br_f (fun z => (rf_bz _ _ (by omega)).mp z hb) ⟨vi, vq, vi, vq, nm_e (nm_r (nI_1 i) (kk _ (rf_hit hh' hb hz hf hx)))⟩
    · exact br_t ((rf_bz _ _ (by omega)).mpr hb) (nm_r (nI_1 i) (kk _ (rf_hin hh' hb)))
  · have vi : vp_in (nI i) 4 := vp_in_nI (by omega) (by omega)
    have ec : (nI i).toNatClampNeg = i := nI_clamp (by omega)
    refine br_f (nI_ge hi (by omega)) ?_
    rw [ec]
    refine ⟨vi, vi, nm_e (nm_r (nI_1 i) (k _ ?_))⟩
    intro q hq
    by_cases e : q = i
    · subst e
      exact pk_us
    · rw [pk_un e]
      exact hh q (by omega)
theorem xw_fh {N R T g : Nat} (h1 : 1 ≤ N) (hN : N ≤ 4) (hR : R ≤ 4) (hT : T ≤ 32) (hg : g ≤ 3) {tt cur : Nat → Int32} (hW : rf_WF R ar tk ta tt sp T) (hvg : ∀ i, i < T → tk i = 2 ∨ tk i = 21 ∨ tk i = 22 → ∀ v : Nat, ta i = nI v → v < 3 → v < g) (hc : ∀ q, q < R → rf_ok N (ar q) (cur q)) (he : ∀ q, q < R → hd q = cur q) (hD : rf_hg tk T = 1) (post : Int32 → SX → Prop)
    (hp : ∀ w, post (if rf_ps N cur tk ta tt T 0 0 = 0 then 0 else 1) (nI N, xr, nI T, xd, xs, xp, nI (4 ^ g), ar, rq, ex, tk, ta, sp, sT, sM, hd, pR, pB, w)) : wpX_formulaHolds post (nI N, xr, nI T, xd, xs, xp, nI (4 ^ g), ar, rq, ex, tk, ta, sp, sT, sM, hd, pR, pB, vl) := by
  have hEp : 0 < 4 ^ g := Nat.pow_pos (by decide)
  refine loop_0 (fun n i (w : Nat → Int32) => wX_formulaHolds_4 post n (nI (rf_hg tk i)) (nI i) (nI N) xr (nI T) xd xs xp (nI (4 ^ g)) ar rq ex tk ta sp sT sM hd pR pB w) (fun i w => rf_ag N (4 ^ g) (rf_hg tk i) w (rf_ps N cur tk ta tt i)) T vl (fun s hs => absurd hs (Nat.not_lt_zero s)) (fun n w h => ?_) (fun n i w hi h k => ?_)
  · refine br_t (nI_le (Nat.le_refl T) (by omega)) ?_
    have e0 : w 0 = rf_ps N cur tk ta tt T 0 0 := h 0 (by omega) 0 hEp (rf_gd0 h1)
    have hp := hp w
    rw [e0]
    by_cases hz : rf_ps N cur tk ta tt T 0 0 = 0
    · rw [if_pos hz] at hp
      exact br_t hz hp
    · rw [if_neg hz] at hp
      exact br_f hz hp
  · have vi : vp_in (nI i) 32 := vp_in_nI (by omega) (by omega)
    have ec : (nI i).toNatClampNeg = i := nI_clamp (by omega)
    have hw := hW i hi
    have hpp := hw.2.1
    have hhi := rf_hgi tk i
    refine br_f (nI_ge hi (by omega)) ?_
    rw [ec]
    refine ⟨vi, xw_oc _ _ hw.1 (nm_r (e' := nI (rf_hg tk i - rf_pp (tk i))) (pk_sub hpp) ?_)⟩
    rw [rf_64]
    refine xw_ev h1 hN hR hg rfl (by omega) hhi hw (hvg i hi) (rf_psok h1 hN hR hW hc i (by omega)) he h _ (fun w' hw' => ?_)
    exact nm_r (nI_1 _) (nm_r (nI_1 i) (k w' hw'))
end
