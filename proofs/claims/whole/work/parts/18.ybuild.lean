/-! Y's assignment -/
section
variable {xn xr xt xd xs : Int32} {ar md tk ta tt sT sM ns cu vs eT tm : Nat → Int32}
theorem yw_bu {N R F c : Nat} (hN : N ≤ 4) (hR : R ≤ 4) (hF : F ≤ 12) (hFe : F = rf_cn (rf_fq N ar md) (R * 16)) (post : SY → Prop) (hp : ∀ h, (∀ q, q < R → h q = rf_as N ar md F (nI c) q) → post (nI N, nI R, xt, xd, xs, ar, md, tk, ta, tt, sT, sM, ns, h, vs, eT, tm)) : wpY_build post (nI N, nI R, xt, xd, xs, ar, md, tk, ta, tt, sT, sM, ns, cu, vs, eT, tm) (nI c) (nI F) := by
  refine loop_0 (fun n i (h : Nat → Int32) => wY_build_5 post (nI c) (nI F) 0 (nI N) (nI R) xt xd xs n (nI i) ar md tk ta tt sT sM ns h vs eT tm) (fun i h => ∀ x, x < i → h x = 0) 4 cu (fun q hq => absurd hq (Nat.not_lt_zero q)) (fun n h hh => br_t (by decide) ?_) (fun n i h hi hh k => ?_)
  · refine loop_0 (fun n q (z : Int32 × (Nat → Int32)) => wY_build_28 post (nI c) (nI F) (nI N) (nI R) xt xd xs n z.1 (nI q) ar md tk ta tt sT sM ns z.2 vs eT tm) (fun q z => z.1 = nI (rf_cn (rf_fq N ar md) (q * 16)) ∧ rf_cy N ar md F (nI c) q 0 z.2) R (0, h) ⟨nI_0.symm, rf_cy0 hh⟩ (fun n z hz => br_t (nI_le (Nat.le_refl R) (by omega)) (hp z.2 (rf_cye hR hz.2))) (fun n q z hq hz k => ?_)
    refine br_f (nI_ge hq (by omega)) ?_
    refine loop_0 (fun m t (y : Int32 × (Nat → Int32)) => wY_build_40 post (wY_build_28 post (nI c) (nI F) (nI N) (nI R) xt xd xs n) (nI c) (nI F) (nI q) (nI N) (nI R) xt xd xs m y.1 (nI t) ar md tk ta tt sT sM ns y.2 vs eT tm) (fun t y => y.1 = nI (rf_ct N ar md q t) ∧ rf_cy N ar md F (nI c) q t y.2) 16 z ⟨by rw [rf_ct0]; exact hz.1, hz.2⟩ (fun m y hy => br_t (by decide) (nm_r (nI_1 q) (k y ⟨by rw [hy.1, rf_ct16 hN], rf_cyq hN hy.2⟩))) (fun m t y ht hy kk => ?_)
    obtain ⟨x3, cr⟩ := y
    obtain ⟨hy1, hy2⟩ := hy
    dsimp only at hy1 hy2 ⊢
    obtain ⟨e1, e2, e3⟩ := yw_ix (j := q) (t := t) (by omega) ht
    have vq : vp_in (nI q) 4 := vp_in_nI (by omega) (by omega)
    have ecq : (nI q).toNatClampNeg = q := nI_clamp (by omega)
    have et2 : nI t >>> ((2 : Int32) &&& 31) = nI (t / 4) := pk_shrN (by omega) _ 2 (by decide)
    refine br_f (nI_ge (b := 16) ht (by decide)) (yw_va hN (by omega) ht _ ?_)
    by_cases hv : rf_va N (ar q) t = true
    · rw [if_pos hv, e1, e3]
      have honc := rf_onc hN (F := F) (c := nI c) (md := md) ht hv
      have hct := rf_ctv hN ar md q ht hv
      -- the store, or none
      have w1 : ∀ x : Int32, x = nI (rf_ct N ar md q (t + 1)) → rf_on N ar md F (nI c) q (rf_rh (ar q) t) = true → wY_build_117 post (wY_build_28 post (nI c) (nI F) (nI N) (nI R) xt xd xs n) (wY_build_40 post (wY_build_28 post (nI c) (nI F) (nI N) (nI R) xt xd xs n) (nI c) (nI F) (nI q) (nI N) (nI R) xt xd xs m) (nI c) (nI F) x (nI q) (nI t) 1 (nI N) (nI R) xt xd xs ar md tk ta tt sT sM ns cr vs eT tm := by
        intro x hx hon
        have hcy := rf_cyt hN (show q < 4 by omega) ht hv hon hy2
        unfold wY_build_117
        rw [ecq, et2]
        refine br_f (by decide) ⟨vq, vq, ?_⟩
        by_cases hr : ar q = 1
        · rw [if_pos hr] at hcy
          exact br_t hr ⟨vq, nm_e (nm_r (nI_1 t) (kk (x, _) ⟨hx, hcy⟩))⟩
        · rw [if_neg hr] at hcy
          exact br_f hr ⟨vq, nm_e (nm_r (nI_1 t) (kk (x, _) ⟨hx, hcy⟩))⟩
      have w0 : ∀ x : Int32, x = nI (rf_ct N ar md q (t + 1)) → ¬ rf_on N ar md F (nI c) q (rf_rh (ar q) t) = true → wY_build_117 post (wY_build_28 post (nI c) (nI F) (nI N) (nI R) xt xd xs n) (wY_build_40 post (wY_build_28 post (nI c) (nI F) (nI N) (nI R) xt xd xs n) (nI c) (nI F) (nI q) (nI N) (nI R) xt xd xs m) (nI c) (nI F) x (nI q) (nI t) 0 (nI N) (nI R) xt xd xs ar md tk ta tt sT sM ns cr vs eT tm := by
        intro x hx hon
        exact br_t rfl (nm_r (nI_1 t) (kk (x, cr) ⟨hx, rf_cyo hN ht hv hon hy2⟩))
      refine br_f (by decide) ⟨e2, nm_e ?_⟩
      by_cases hm1 : md (q * 16 + t) = 1
      · have hm0 : ¬ md (q * 16 + t) = 0 := by
          rw [hm1]
          decide
        rw [if_neg hm0] at hct
        exact br_t hm1 (br_f hm0 (w1 x3 (by rw [hy1, hct]; rfl) (honc.mpr (Or.inl hm1))))
      · refine br_f hm1 ?_
        by_cases hm0 : md (q * 16 + t) = 0
        · rw [if_pos hm0] at hct
          have hlt : rf_ct N ar md q t < F := by
            have hf : rf_fq N ar md (q * 16 + rf_rh (ar q) t) = true := by
              obtain ⟨_, g2, g3, g4, _⟩ := rf_rhv hN ht hv
              rw [rf_fqi N ar md q _ g4]
              unfold rf_fr
              rw [g3, g2, Bool.true_and]
              exact decide_eq_true hm0
            have := rf_rhv hN ht hv
            rw [hFe]
            exact rf_cnlt _ (by omega) hf
          have es : (nI F - 1) - x3 = nI (F - 1 - rf_ct N ar md q t) := by
            rw [hy1, show (1 : Int32) = nI 1 from rfl, pk_sub (by omega), pk_sub (by omega)]
          have ex3 : x3 + 1 = nI (rf_ct N ar md q (t + 1)) := by rw [hy1, hct, nI_1]
          refine br_t hm0 ?_
          rw [es]
          refine rf_b01 (nI c) _ (by omega) (fun hb => ?_) (fun hb => ?_)
          · exact nm_e (w1 _ ex3 (honc.mpr (Or.inr ⟨hm0, hb⟩)))
          · exact nm_e (w0 _ ex3 (fun z => (honc.mp z).elim hm1 (fun z => hb z.2)))
        · rw [if_neg hm0] at hct
          exact br_f hm0 (w0 x3 (by rw [hy1, hct]; rfl) (fun z => (honc.mp z).elim hm1 (fun z => hm0 z.1)))
    · rw [if_neg hv]
      exact br_t rfl (nm_r (nI_1 t) (kk (x3, cr) ⟨by rw [hy1, rf_ctn ar md q ht hv], rf_cyn ht hv hy2⟩))
  · have ec : (nI i).toNatClampNeg = i := nI_clamp (by omega)
    refine br_f (nI_ge (b := 4) hi (by decide)) ?_
    rw [ec]
    refine ⟨vp_in_nI (by omega) (by omega), nm_e (nm_r (nI_1 i) (k _ ?_))⟩
    intro q hq
    by_cases e : q = i
    · subst e
      exact pk_us
    · rw [pk_un e]
      exact hh q (by omega)
end
