/-! solve -/
def rl_sat (N : Nat) (ar md : Nat → Int32) (F : Nat) (tk ta tt : Nat → Int32) (T c : Nat) : Prop := ¬ rf_ps N (rf_as N ar md F (nI c)) tk ta tt T 0 0 = 0
theorem rl_2F {F : Nat} (h : F ≤ 12) : 2 ^ F ≤ 4096 := Nat.pow_le_pow_right (n := 2) (by decide) h
section
variable {xn xr xt xd xs xp xe : Int32} {ar rq ex tk ta sp sT sM hd pR pB vl md tt ns cu vs eT tm : Nat → Int32}
theorem xw_s66 {N R T F g : Nat} (h1 : 1 ≤ N) (hN : N ≤ 4) (hR : R ≤ 4) (hT : T ≤ 32) (hF : F ≤ 12) (hg : g ≤ 3) (hb : rf_bd N ar md rq ex) (hFe : F = rf_cn (rf_fq N ar md) (R * 16)) (hpl : rf_pl N ar md (R * 16) pR pB) (hW : rf_WF R ar tk ta tt sp T) (hvg : ∀ i, i < T → tk i = 2 ∨ tk i = 21 ∨ tk i = 22 → ∀ v : Nat, ta i = nI v → v < 3 → v < g) (hD : rf_hg tk T = 1) (post : Int32 → SX → Prop)
    (H1 : ∀ c, c < 2 ^ F → rl_sat N ar md F tk ta tt T c → (∀ d, d < c → ¬ rl_sat N ar md F tk ta tt T d) → ∀ h w, (∀ q, q < R → h q = rf_as N ar md F (nI c) q) → post 1 (nI N, nI R, nI T, xd, 1, nI F, nI (4 ^ g), ar, rq, ex, tk, ta, sp, sT, sM, h, pR, pB, w))
    (H2 : (∀ d, d < 2 ^ F → ¬ rl_sat N ar md F tk ta tt T d) → ∀ h w, post 2 (nI N, nI R, nI T, xd, 2, nI F, nI (4 ^ g), ar, rq, ex, tk, ta, sp, sT, sM, h, pR, pB, w)) :
    ∃ n, wX_solve_66 post (nI (2 ^ F)) n 0 (nI N) (nI R) (nI T) xd 2 (nI F) (nI (4 ^ g)) ar rq ex tk ta sp sT sM hd pR pB vl := by
  have h2 := rl_2F hF
  refine loop_0 (fun n c (z : (Nat → Int32) × (Nat → Int32)) => wX_solve_66 post (nI (2 ^ F)) n (nI c) (nI N) (nI R) (nI T) xd 2 (nI F) (nI (4 ^ g)) ar rq ex tk ta sp sT sM z.1 pR pB z.2) (fun c _ => ∀ d, d < c → ¬ rl_sat N ar md F tk ta tt T d) (2 ^ F) (hd, vl) (fun d hd => absurd hd (Nat.not_lt_zero d)) (fun n z h => br_t (nI_le (Nat.le_refl _) (by omega)) (H2 h z.1 z.2)) (fun n c z hc h k => ?_)
  refine br_f (nI_ge hc (by omega)) ?_
  refine xw_as hN hR hF hb hFe hpl _ (fun hh e => ?_)
  refine xw_fh h1 hN hR hT hg hW hvg (cur := rf_as N ar md F (nI c)) (fun q hq => rf_asok N ar md F (nI c) q (hb q (by omega)).1) e hD _ (fun w => ?_)
  by_cases hs : rf_ps N (rf_as N ar md F (nI c)) tk ta tt T 0 0 = 0
  · rw [if_pos hs]
    refine br_t rfl (nm_r (nI_1 c) (k (hh, w) (fun d hd => ?_)))
    by_cases ed : d = c
    · subst ed
      exact fun z => z hs
    · exact h d (by omega)
  · rw [if_neg hs]
    exact br_f (by decide) (H1 c hc hs h hh w e)
end
section
variable {xn xr xt xd xs xp xe : Int32} {ar rq ex tk ta sp sT sM hd pR pB vl md tt ns cu vs eT tm : Nat → Int32}
theorem yw_s52 {N R T F : Nat} (h1 : 1 ≤ N) (hN : N ≤ 4) (hR : R ≤ 4) (hT : T ≤ 32) (hF : F ≤ 12) (hb : rf_bd N ar md rq ex) (hFe : F = rf_cn (rf_fq N ar md) (R * 16)) (hW : rf_WF R ar tk ta tt sp T) (hD : rf_hg tk T = 1) (post : Int32 → SY → Prop)
    (H1 : ∀ c, c < 2 ^ F → rl_sat N ar md F tk ta tt T c → (∀ d, d < c → ¬ rl_sat N ar md F tk ta tt T d) → ∀ i h w e t, (∀ q, q < R → i q = rf_as N ar md F (nI c) q) → post 1 (nI N, nI R, nI T, xd, 1, ar, md, tk, ta, tt, sT, sM, i, h, w, e, t))
    (H2 : (∀ d, d < 2 ^ F → ¬ rl_sat N ar md F tk ta tt T d) → ∀ h w e t, post 2 (nI N, nI R, nI T, xd, 2, ar, md, tk, ta, tt, sT, sM, ns, h, w, e, t)) :
    ∃ n, wY_solve_52 post (nI F) (nI (2 ^ F)) n 0 (nI N) (nI R) (nI T) xd xs ar md tk ta tt sT sM ns cu vs eT tm := by
  have h2 := rl_2F hF
  refine loop_0 (fun n c (z : (Nat → Int32) × (Nat → Int32) × (Nat → Int32) × (Nat → Int32)) => wY_solve_52 post (nI F) (nI (2 ^ F)) n (nI c) (nI N) (nI R) (nI T) xd xs ar md tk ta tt sT sM ns z.1 z.2.1 z.2.2.1 z.2.2.2) (fun c _ => ∀ d, d < c → ¬ rl_sat N ar md F tk ta tt T d) (2 ^ F) (cu, vs, eT, tm) (fun d hd => absurd hd (Nat.not_lt_zero d)) (fun n z h => br_t (nI_le (Nat.le_refl _) (by omega)) (H2 h z.1 z.2.1 z.2.2.1 z.2.2.2)) (fun n c z hc h k => ?_)
  refine br_f (nI_ge hc (by omega)) ?_
  refine yw_bu hN hR hF hFe _ (fun hh e => ?_)
  refine yw_ev h1 hN hR hT hW (cur := rf_as N ar md F (nI c)) (fun q hq => rf_asok N ar md F (nI c) q (hb q (by omega)).1) e hD _ (fun w ev t => ?_)
  by_cases hs : rf_ps N (rf_as N ar md F (nI c)) tk ta tt T 0 0 = 0
  · rw [if_pos hs]
    refine br_t rfl (nm_r (nI_1 c) (k (hh, w, ev, t) (fun d hd => ?_)))
    by_cases ed : d = c
    · subst ed
      exact fun z => z hs
    · exact h d (by omega)
  · rw [if_neg hs]
    refine br_f (by decide) ?_
    refine loop_0 (fun m i (x : Nat → Int32) => wY_solve_73 post (nI N) (nI R) (nI T) xd xs m (nI i) ar md tk ta tt sT sM x hh w ev t) (fun i x => ∀ q, q < i → x q = hh q) 4 ns (fun d hd => absurd hd (Nat.not_lt_zero d)) (fun m x hx => br_t (by decide) (H1 c hc hs h x hh w ev t (fun q hq => by rw [hx q (by omega)]; exact e q hq))) (fun m i x hi hx kk => ?_)
    have vi : vp_in (nI i) 4 := vp_in_nI (by omega) (by omega)
    refine br_f (nI_ge (b := 4) hi (by decide)) ?_
    rw [nI_clamp (show i < 2 ^ 31 by omega)]
    refine ⟨vi, vi, nm_e (nm_r (nI_1 i) (kk _ ?_))⟩
    intro q hq
    by_cases eq : q = i
    · subst eq
      exact pk_us
    · rw [pk_un eq]
      exact hx q (by omega)
end
theorem i_vc_solve {k : Nat} {u : SX} {v : SY} (I : i_Rel k u v) (hk : k + 5 ≤ 2562) : wpX_solve (fun r u' => wpY_solve (fun r' v' => r' = r ∧ i_Rel (k + 5) u' v') v) u := by
  have I' : i_Rel (k + 5) u v := I
  obtain ⟨N, R, T, xs, xp, xe, ar, rq, ex, tk, ta, sp, sT, sM, hd, pR, pB, vl, md, tt, ns, cu, vs, eT, tm, rfl, rfl, I⟩ := I
  obtain ⟨h1, h2, h3, h4, h5, h6, h7, h8, h9⟩ := I
  have hDT := rf_hgi tk T
  by_cases d1 : nI (rf_hg tk T) = 1
  case neg => exact br_f d1 (br_f d1 ⟨rfl, I'⟩)
  have hD : rf_hg tk T = 1 := (nI_eq (b := 1) (by omega) (by decide)).mp d1
  refine br_t d1 ?_
  by_cases d2 : sT 0 = 0
  case neg => exact br_f d2 (br_t d1 (br_f d2 ⟨rfl, I'⟩))
  refine br_t d2 ?_
  by_cases d3 : sM 0 = 0
  case neg => exact br_f d3 (br_t d1 (br_t d2 (br_f d3 ⟨rfl, I'⟩)))
  refine br_t d3 (xw_fc h2 h4 h6 _ ?_)
  by_cases hF : rf_cn (rf_fq N ar md) (R * 16) ≤ 12
  case neg =>
    have hle := rf_cnle (rf_fq N ar md) (R * 16)
    have hn : ¬ nI (rf_cn (rf_fq N ar md) (R * 16)) ≤ 12 := nI_ge (a := 12) (by omega) (by omega)
    exact br_f hn (br_t d1 (br_t d2 (br_t d3 (yw_fc h2 h4 _ (br_f hn ⟨rfl, I'⟩)))))
  have hF12 : nI (rf_cn (rf_fq N ar md) (R * 16)) ≤ 12 := nI_le (b := 12) hF (by decide)
  refine br_t hF12 (xw_lp h2 h4 h6 hF _ (fun pR' pB' hpl => ?_))
  refine xw_ce h5 h7 _ (fun g hg hvg => ?_)
  have hYs : ∀ post : Int32 → SY → Prop, (∃ n, wY_solve_52 post (nI (rf_cn (rf_fq N ar md) (R * 16))) (nI (2 ^ rf_cn (rf_fq N ar md) (R * 16))) n 0 (nI N) (nI R) (nI T) (nI (rf_hg tk T)) xs ar md tk ta tt sT sM ns cu vs eT tm) → wpY_solve post (nI N, nI R, nI T, nI (rf_hg tk T), xs, ar, md, tk, ta, tt, sT, sM, ns, cu, vs, eT, tm) := by
    intro post hp
    exact br_t d1 (br_t d2 (br_t d3 (yw_fc h2 h4 _ (br_t hF12 (nm_r (rf_2F _ (by omega)) hp)))))
  refine nm_r (rf_2F _ (by omega)) ?_
  refine xw_s66 h1 h2 h4 h5 hF hg h6 rfl hpl h7 hvg hD _ (fun c hc hs hmin h w e => ?_) (fun hno h w => ?_)
  · refine hYs _ (yw_s52 h1 h2 h4 h5 hF h6 rfl h7 hD _ (fun c' hc' hs' hmin' i h' w' e' t' ei => ⟨rfl, ?_⟩) (fun hno' => absurd hs (hno' c hc)))
    have ec : c' = c := by
      rcases Nat.lt_trichotomy c' c with z | z | z
      · exact absurd hs' (hmin c' z)
      · exact z
      · exact absurd hs (hmin' c z)
    subst ec
    exact rl_mk ⟨h1, h2, h3, h4, h5, h6, h7, h8, fun _ q hq => (e q hq).trans (ei q hq).symm⟩
  · refine hYs _ (yw_s52 h1 h2 h4 h5 hF h6 rfl h7 hD _ (fun c' hc' hs' _ _ _ _ _ _ _ => absurd hs' (hno c' hc')) (fun _ h' w' e' t' => ⟨rfl, ?_⟩))
    exact rl_mk ⟨h1, h2, h3, h4, h5, h6, h7, h8, fun z => absurd z (by decide)⟩
