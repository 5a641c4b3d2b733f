/-! Y: leaves, quantifiers, operations, the formula's value, the assignment -/
section
variable {xn xr xt xd xs : Int32} {ar md tk ta tt sT sM ns cu vs eT tm : Nat → Int32}
theorem yw_l70 {s : Nat} (hs : s < 32) (post : SY → Prop) (k a x : Int32) (g : Nat → Int32) (h2 : k = 2 → ∃ v : Nat, v < 3 ∧ a = nI v ∧ ∀ e, e < 64 → g e = (1 : Int32) <<< (nI (rf_dg v e) &&& 31)) (hn : ¬ k = 2 → ∀ e, e < 64 → g e = x) (hp : post (xn, xr, xt, xd, xs, ar, md, tk, ta, tt, sT, sM, ns, cu, rf_bk vs (s * 64) 64 g, eT, tm)) : ∃ n, wY_leaf_70 post (nI s) k a x xn xr xt xd xs n 0 ar md tk ta tt sT sM ns cu vs eT tm := by
  refine loop_0 (fun n e w => wY_leaf_70 post (nI s) k a x xn xr xt xd xs n (nI e) ar md tk ta tt sT sM ns cu w eT tm) (fun e w => w = rf_bk vs (s * 64) e g) 64 vs (rf_bk0 _ _ _).symm (fun n w h => br_t (by decide) (by rw [h]; exact hp)) (fun n e w he h kk => ?_)
  have e1 : (nI s * 64) + nI e = nI (s * 64 + e) := by rw [rf_64, nI_add]
  have vi : vp_in (nI (s * 64 + e)) 2048 := vp_in_nI (by omega) (by omega)
  have ec : (nI (s * 64 + e)).toNatClampNeg = s * 64 + e := nI_clamp (by omega)
  refine br_f (nI_ge (b := 64) he (by decide)) ?_
  rw [e1, ec, h]
  by_cases hk : k = 2
  · obtain ⟨v, hv, rfl, hg⟩ := h2 hk
    refine br_t hk ⟨vi, nm_r (e' := rf_bk vs (s * 64) (e + 1) g) ?_ (nm_r (nI_1 e) (kk _ rfl))⟩
    rw [rf_2, rf_dgI v hv e he, ← hg e he]
    exact rf_bks vs (s * 64) e g
  · refine br_f hk ⟨vi, nm_r (e' := rf_bk vs (s * 64) (e + 1) g) ?_ (nm_r (nI_1 e) (kk _ rfl))⟩
    rw [← hn hk e he]
    exact rf_bks vs (s * 64) e g
theorem yw_lf {N R s : Nat} (hN : N ≤ 4) (hR : R ≤ 4) (hs : s < 32) (post : SY → Prop) (k a lt rt : Int32) (hk : k = 1 ∨ k = 2 ∨ k = 3 ∨ k = 4) (hr : k = 1 → ∃ q : Nat, q < R ∧ a = nI q) (hv : k = 2 → ∃ v : Nat, v < 3 ∧ a = nI v) (hp : post (nI N, xr, xt, xd, xs, ar, md, tk, ta, tt, sT, sM, ns, cu, rf_bk vs (s * 64) 64 (rf_gy N cu k a lt rt 0 vs (s * 64)), eT, tm)) : wpY_leaf post (nI N, xr, xt, xd, xs, ar, md, tk, ta, tt, sT, sM, ns, cu, vs, eT, tm) (nI s) k a := by
  rcases hk with rfl | rfl | rfl | rfl
  · obtain ⟨q, hq, rfl⟩ := hr rfl
    have e3 : nI q &&& 3 = nI q := by
      rw [pk_andN (by omega) 2 (by decide), Nat.mod_eq_of_lt (by omega)]
    refine br_t rfl ?_
    rw [e3]
    refine ⟨vp_in_nI (by omega) (by omega), nm_e (br_f (by decide) (br_f (by decide) ?_))⟩
    exact yw_l70 hs post 1 (nI q) _ _ (fun z => absurd z (by decide)) (fun _ e _ => rfl) hp
  · obtain ⟨v, hv3, rfl⟩ := hv rfl
    refine br_f (by decide) (br_f (by decide) (br_f (by decide) ?_))
    refine yw_l70 hs post 2 (nI v) _ _ (fun _ => ⟨v, hv3, rfl, fun e _ => ?_⟩) (fun z => absurd rfl z) hp
    show (1 : Int32) <<< (nI (rf_dg (nI v).toNatClampNeg e) &&& 31) = _
    rw [nI_clamp (show v < 2 ^ 31 by omega)]
  · refine br_f (by decide) (br_t rfl (nm_e (br_f (by decide) ?_)))
    exact yw_l70 hs post 3 a _ _ (fun z => absurd z (by decide)) (fun _ e _ => rfl) hp
  · refine br_f (by decide) (br_f (by decide) (br_t rfl ?_))
    refine rf_lo (fun n i r => wY_leaf_41 post (nI s) 4 a (nI N) xr xt xd xs ar md tk ta tt sT sM ns cu vs eT tm n r (nI i)) (fun b => (1 : Int32) <<< (nI (b * 5) &&& 31)) N 0 (fun n => br_t (nI_le (Nat.le_refl N) (by omega)) ?_) (fun n i r hi hn => ?_)
    · exact yw_l70 hs post 4 a _ _ (fun z => absurd z (by decide)) (fun _ e _ => rfl) hp
    · exact br_f (nI_ge hi (by omega)) (nm_r (by rw [rf_5]) (nm_r (nI_1 i) hn))
theorem yw_qu {N s v : Nat} (hN : N ≤ 4) (hs : s < 32) (hv : v < 3) (post : SY → Prop) (al : Int32) (hp : ∀ t, post (nI N, xr, xt, xd, xs, ar, md, tk, ta, tt, sT, sM, ns, cu, rf_bk vs (s * 64) 64 (fun e => if al = 0 then rf_qe N (fun d => vs (s * 64 + rf_sd v e d)) else rf_qa N (fun d => vs (s * 64 + rf_sd v e d))), eT, t)) : wpY_quant post (nI N, xr, xt, xd, xs, ar, md, tk, ta, tt, sT, sM, ns, cu, vs, eT, tm) (nI s) (nI v) al := by
  refine nm_r (rf_2 v) ?_
  generalize hG : (fun e => if al = 0 then rf_qe N (fun d => vs (s * 64 + rf_sd v e d)) else rf_qa N (fun d => vs (s * 64 + rf_sd v e d))) = G at hp
  have hG0 : ∀ e, al = 0 → rf_qe N (fun d => vs (s * 64 + rf_sd v e d)) = G e := by
    intro e h
    rw [← hG]
    exact (if_pos h).symm
  have hG1 : ∀ e, ¬ al = 0 → rf_qa N (fun d => vs (s * 64 + rf_sd v e d)) = G e := by
    intro e h
    rw [← hG]
    exact (if_neg h).symm
  refine loop_0 (fun n e t => wY_quant_8 post (nI s) al (nI (2 * v)) (nI N) xr xt xd xs n (nI e) ar md tk ta tt sT sM ns cu vs eT t) (fun e t => ∀ j, j < e → t j = G j) 64 tm (fun j hj => absurd hj (Nat.not_lt_zero j)) (fun n t h => br_t (by decide) ?_) (fun n e t he h kk => ?_)
  · refine loop_0 (fun m e w => wY_quant_113 post (nI s) (nI N) xr xt xd xs m (nI e) ar md tk ta tt sT sM ns cu w eT t) (fun e w => w = rf_bk vs (s * 64) e G) 64 vs (rf_bk0 _ _ _).symm (fun m w hw => br_t (by decide) (by rw [hw]; exact hp t)) (fun m e w he hw kk => ?_)
    have e1 : (nI s * 64) + nI e = nI (s * 64 + e) := by rw [rf_64, nI_add]
    refine br_f (nI_ge (b := 64) he (by decide)) ?_
    rw [e1, nI_clamp (show s * 64 + e < 2 ^ 31 by omega), nI_clamp (show e < 2 ^ 31 by omega), hw, h e he]
    refine ⟨vp_in_nI (by omega) (by omega), vp_in_nI (by omega) (by omega), nm_r (e' := rf_bk vs (s * 64) (e + 1) G) (rf_bks vs (s * 64) e G) (nm_r (nI_1 e) (kk _ rfl))⟩
  · have hix : ∀ d, d < N → (nI s * 64) + ((nI e &&& (((3 : Int32) <<< (nI (2 * v) &&& 31)) ^^^ (-1))) ||| (nI d <<< (nI (2 * v) &&& 31))) = nI (s * 64 + rf_sd v e d) ∧ vp_in (nI (s * 64 + rf_sd v e d)) 2048 ∧ (nI (s * 64 + rf_sd v e d)).toNatClampNeg = s * 64 + rf_sd v e d := by
      intro d hd
      have hlt : rf_sd v e d < 64 := rf_sdE (g := 3) (by omega) hv he (by omega)
      exact ⟨by rw [rf_sdI v hv e he d (by omega), rf_64, nI_add], vp_in_nI (by omega) (by omega), nI_clamp (by omega)⟩
    have hnext : ∀ r : Int32, r = G e → ∀ j, j < e + 1 → upd t e r j = G j := by
      intro r hr j hj
      by_cases ej : j = e
      · subst ej
        rw [pk_us]
        exact hr
      · rw [pk_un ej]
        exact h j (by omega)
    have vie : vp_in (nI e) 64 := vp_in_nI he (by omega)
    refine br_f (nI_ge (b := 64) he (by decide)) ?_
    by_cases ha : al = 0
    · refine br_t ha ?_
      refine rf_lp (fun m d r => wY_quant_29 post (wY_quant_8 post (nI s) al (nI (2 * v)) (nI N) xr xt xd xs n) (nI s) al (nI (2 * v)) (nI e) (nI N) xr xt xd xs ar md tk ta tt sT sM ns cu vs eT t m r (nI d)) (fun d r => if vs (s * 64 + rf_sd v e d) = 0 then r else 1) N 0 (fun m => br_t (nI_le (Nat.le_refl N) (by omega)) ?_) (fun m d r hd hm => ?_)
      · rw [nI_clamp (show e < 2 ^ 31 by omega)]
        exact ⟨vie, nm_e (nm_r (nI_1 e) (kk _ (hnext _ (hG0 e ha))))⟩
      · obtain ⟨i1, i2, i3⟩ := hix d hd
        have hm : wY_quant_29 post (wY_quant_8 post (nI s) al (nI (2 * v)) (nI N) xr xt xd xs n) (nI s) al (nI (2 * v)) (nI e) (nI N) xr xt xd xs ar md tk ta tt sT sM ns cu vs eT t m (if vs (s * 64 + rf_sd v e d) = 0 then r else 1) (nI (d + 1)) := hm
        refine br_f (nI_ge hd (by omega)) ?_
        rw [i1, i3]
        refine ⟨i2, nm_e (br_t ha (br_t ha ?_))⟩
        by_cases hx : vs (s * 64 + rf_sd v e d) = 0
        · rw [if_pos hx] at hm
          exact br_t hx (nm_r (nI_1 d) hm)
        · rw [if_neg hx] at hm
          exact br_f hx (nm_r (nI_1 d) hm)
    · refine br_f ha ?_
      refine rf_lp (fun m d r => wY_quant_29 post (wY_quant_8 post (nI s) al (nI (2 * v)) (nI N) xr xt xd xs n) (nI s) al (nI (2 * v)) (nI e) (nI N) xr xt xd xs ar md tk ta tt sT sM ns cu vs eT t m r (nI d)) (fun d r => if vs (s * 64 + rf_sd v e d) = 0 then 0 else r) N 1 (fun m => br_t (nI_le (Nat.le_refl N) (by omega)) ?_) (fun m d r hd hm => ?_)
      · rw [nI_clamp (show e < 2 ^ 31 by omega)]
        exact ⟨vie, nm_e (nm_r (nI_1 e) (kk _ (hnext _ (hG1 e ha))))⟩
      · obtain ⟨i1, i2, i3⟩ := hix d hd
        have hm : wY_quant_29 post (wY_quant_8 post (nI s) al (nI (2 * v)) (nI N) xr xt xd xs n) (nI s) al (nI (2 * v)) (nI e) (nI N) xr xt xd xs ar md tk ta tt sT sM ns cu vs eT t m (if vs (s * 64 + rf_sd v e d) = 0 then 0 else r) (nI (d + 1)) := hm
        refine br_f (nI_ge hd (by omega)) ?_
        rw [i1, i3]
        refine ⟨i2, nm_e (br_f ha ?_)⟩
        by_cases hx : vs (s * 64 + rf_sd v e d) = 0
        · rw [if_pos hx] at hm
          exact br_t hx (br_f ha (nm_r (nI_1 d) hm))
        · rw [if_neg hx] at hm
          exact br_f hx (br_f ha (nm_r (nI_1 d) hm))
theorem yw_a1 {N s : Nat} (hN : N ≤ 4) (hs : s < 32) (post : SY → Prop) (k a lt rt : Int32) (hp : post (nI N, xr, xt, xd, xs, ar, md, tk, ta, tt, sT, sM, ns, cu, rf_bk vs (s * 64) 64 (rf_gy N cu k a lt rt 1 vs (s * 64)), eT, tm)) : wpY_apply post (nI N, xr, xt, xd, xs, ar, md, tk, ta, tt, sT, sM, ns, cu, vs, eT, tm) (nI s) k lt rt 1 := by
  refine loop_0 (fun n e w => wY_apply_3 post (nI s) k lt rt 1 (nI N) xr xt xd xs n (nI e) ar md tk ta tt sT sM ns cu w eT tm) (fun e w => w = rf_bk vs (s * 64) e (rf_gy N cu k a lt rt 1 vs (s * 64))) 64 vs (rf_bk0 _ _ _).symm (fun n w h => br_t (by decide) (by rw [h]; exact hp)) (fun n e w he h kk => ?_)
  have e0 : (nI s + 1) - 1 = nI s := by rw [nI_1, nI_pred]
  have e1 : (nI s * 64) + nI e = nI (s * 64 + e) := by rw [rf_64, nI_add]
  have vi : vp_in (nI (s * 64 + e)) 2048 := vp_in_nI (by omega) (by omega)
  have ec : (nI (s * 64 + e)).toNatClampNeg = s * 64 + e := nI_clamp (by omega)
  refine br_f (nI_ge (b := 64) he (by decide)) ?_
  rw [e0, e1, ec]
  have er : w (s * 64 + e) = vs (s * 64 + e) := by
    rw [h]
    exact rf_bko (Or.inr (by omega))
  rw [er]
  refine ⟨vi, nm_e (br_t rfl (yw_q1 hN _ k _ ⟨vi, nm_r (e' := rf_bk vs (s * 64) (e + 1) (rf_gy N cu k a lt rt 1 vs (s * 64))) ?_ (nm_r (nI_1 e) (kk _ rfl))⟩))⟩
  rw [h]
  exact rf_bks vs (s * 64) e (rf_gy N cu k a lt rt 1 vs (s * 64))
theorem yw_a2 {N s : Nat} (hN : N ≤ 4) (hs : s < 31) (post : SY → Prop) (k a lt rt : Int32) (hp : post (nI N, xr, xt, xd, xs, ar, md, tk, ta, tt, sT, sM, ns, cu, rf_bk vs (s * 64) 64 (rf_gy N cu k a lt rt 2 vs (s * 64)), eT, tm)) : wpY_apply post (nI N, xr, xt, xd, xs, ar, md, tk, ta, tt, sT, sM, ns, cu, vs, eT, tm) (nI s) k lt rt 2 := by
  refine loop_0 (fun n e w => wY_apply_3 post (nI s) k lt rt 2 (nI N) xr xt xd xs n (nI e) ar md tk ta tt sT sM ns cu w eT tm) (fun e w => w = rf_bk vs (s * 64) e (rf_gy N cu k a lt rt 2 vs (s * 64))) 64 vs (rf_bk0 _ _ _).symm (fun n w h => br_t (by decide) (by rw [h]; exact hp)) (fun n e w he h kk => ?_)
  have e0 : (nI s + 2) - 1 = nI (s + 1) := by rw [show (2 : Int32) = nI 2 from rfl, nI_add, nI_pred]
  have e1 : (nI s * 64) + nI e = nI (s * 64 + e) := by rw [rf_64, nI_add]
  have e2 : (nI (s + 1) * 64) + nI e = nI (s * 64 + e + 64) := by rw [rf_64, nI_add, show (s + 1) * 64 + e = s * 64 + e + 64 by omega]
  have vi : vp_in (nI (s * 64 + e)) 2048 := vp_in_nI (by omega) (by omega)
  have ec : (nI (s * 64 + e)).toNatClampNeg = s * 64 + e := nI_clamp (by omega)
  have ec2 : (nI (s * 64 + e + 64)).toNatClampNeg = s * 64 + e + 64 := nI_clamp (by omega)
  refine br_f (nI_ge (b := 64) he (by decide)) ?_
  rw [e0, e1, e2, ec, ec2]
  have er : w (s * 64 + e) = vs (s * 64 + e) := by
    rw [h]
    exact rf_bko (Or.inr (by omega))
  have er2 : w (s * 64 + e + 64) = vs (s * 64 + e + 64) := by
    rw [h]
    exact rf_bko (Or.inr (by omega))
  rw [er, er2]
  refine ⟨vp_in_nI (by omega) (by omega), nm_e (br_f (by decide) ⟨vi, yw_q2 hN _ k lt rt _ _ ⟨vi, nm_r (e' := rf_bk vs (s * 64) (e + 1) (rf_gy N cu k a lt rt 2 vs (s * 64))) ?_ (nm_r (nI_1 e) (kk _ rfl))⟩⟩)⟩
  rw [h]
  exact rf_bks vs (s * 64) e (rf_gy N cu k a lt rt 2 vs (s * 64))
theorem yw_ev {N R T : Nat} (h1 : 1 ≤ N) (hN : N ≤ 4) (hR : R ≤ 4) (hT : T ≤ 32) {sp cur : Nat → Int32} (hW : rf_WF R ar tk ta tt sp T) (hc : ∀ q, q < R → rf_ok N (ar q) (cur q)) (he : ∀ q, q < R → cu q = cur q) (hD : rf_hg tk T = 1) (post : Int32 → SY → Prop)
    (hp : ∀ w e t, post (if rf_ps N cur tk ta tt T 0 0 = 0 then 0 else 1) (nI N, xr, nI T, xd, xs, ar, md, tk, ta, tt, sT, sM, ns, cu, w, e, t)) : wpY_eval post (nI N, xr, nI T, xd, xs, ar, md, tk, ta, tt, sT, sM, ns, cu, vs, eT, tm) := by
  refine loop_0 (fun n i (z : (Nat → Int32) × (Nat → Int32) × (Nat → Int32)) => wY_eval_4 post n (nI (rf_hg tk i)) (nI i) (nI N) xr (nI T) xd xs ar md tk ta tt sT sM ns cu z.1 z.2.1 z.2.2) (fun i z => rf_ag N 64 (rf_hg tk i) z.1 (rf_ps N cur tk ta tt i) ∧ ∀ s, s < rf_hg tk i → z.2.1 s = rf_ty tk tt i s) T (vs, eT, tm) ⟨fun s hs => absurd hs (Nat.not_lt_zero s), fun s hs => absurd hs (Nat.not_lt_zero s)⟩ (fun n z h => ?_) (fun n i z hi h k => ?_)
  · refine br_t (nI_le (Nat.le_refl T) (by omega)) ?_
    have e0 : z.1 0 = rf_ps N cur tk ta tt T 0 0 := h.1 0 (by omega) 0 (by omega) (rf_gd0 h1)
    have hp := hp z.1 z.2.1 z.2.2
    rw [e0]
    by_cases hz : rf_ps N cur tk ta tt T 0 0 = 0
    · rw [if_pos hz] at hp
      exact br_t hz hp
    · rw [if_neg hz] at hp
      exact br_f hz hp
  · obtain ⟨w, ev, t⟩ := z
    obtain ⟨hA, hE⟩ := h
    dsimp only at hA hE ⊢
    have vi : vp_in (nI i) 32 := vp_in_nI (by omega) (by omega)
    have ec : (nI i).toNatClampNeg = i := nI_clamp (by omega)
    have hw := hW i hi
    have hpp := hw.2.1
    have hhi := rf_hgi tk i
    have hSt := rf_psok h1 hN hR hW hc i (by omega)
    have kont : ∀ w' t', (∀ j, j < (rf_hg tk i - rf_pp (tk i)) * 64 → w' j = w j) → (∀ e, e < 64 → rf_gd N e → w' ((rf_hg tk i - rf_pp (tk i)) * 64 + e) = rf_nv N cur (tk i) (ta i) (rf_lt (tk i) (rf_ty tk tt i) (rf_hg tk i)) (rf_rr (tk i) (rf_ty tk tt i) (rf_hg tk i)) (rf_ps N cur tk ta tt i) (rf_hg tk i - rf_pp (tk i)) e) → wY_eval_159 post (wY_eval_4 post n) (nI i) (nI (rf_hg tk i - rf_pp (tk i))) (nI N) xr (nI T) xd xs ar md tk ta tt sT sM ns cu (w') ev (t') := by
      intro w' t' ho hn
      unfold wY_eval_159
      rw [ec, nI_clamp (show rf_hg tk i - rf_pp (tk i) < 2 ^ 31 by omega)]
      refine ⟨vi, vp_in_nI (by omega) (by omega), nm_e (nm_r (nI_1 _) (nm_r (nI_1 i) (k (w', upd ev (rf_hg tk i - rf_pp (tk i)) (tt i), t') ⟨?_, ?_⟩)))⟩
      · exact rf_agp (nv := fun s e => rf_nv N cur (tk i) (ta i) (rf_lt (tk i) (rf_ty tk tt i) (rf_hg tk i)) (rf_rr (tk i) (rf_ty tk tt i) (rf_hg tk i)) (rf_ps N cur tk ta tt i) s e) (Nat.le_refl 64) hA (by omega) ho hn
      · intro s hs
        have hs : s < rf_hg tk i - rf_pp (tk i) + 1 := hs
        show upd ev (rf_hg tk i - rf_pp (tk i)) (tt i) s = upd (rf_ty tk tt i) (rf_hg tk i - rf_pp (tk i)) (tt i) s
        by_cases es : s = rf_hg tk i - rf_pp (tk i)
        · subst es
          rw [pk_us, pk_us]
        · rw [pk_un es, pk_un es]
          exact hE s (by omega)
    refine br_f (nI_ge hi (by omega)) ?_
    rw [ec]
    refine ⟨vi, nm_e (yw_pp _ _ hw.1 (br_f (nI_nlt hpp (by omega)) ?_))⟩
    rw [pk_sub hpp]
    refine br_t (nI_lt (b := 32) (by omega) (by decide)) (nm_e ?_)
    have kontB : ∀ p, p = rf_pp (tk i) → ¬ (tk i = 21 ∨ tk i = 22) → wY_eval_159 post (wY_eval_4 post n) (nI i) (nI (rf_hg tk i - rf_pp (tk i))) (nI N) xr (nI T) xd xs ar md tk ta tt sT sM ns cu (rf_bk w ((rf_hg tk i - rf_pp (tk i)) * 64) 64 (rf_gy N cu (tk i) (ta i) (rf_lt (tk i) (rf_ty tk tt i) (rf_hg tk i)) (rf_rr (tk i) (rf_ty tk tt i) (rf_hg tk i)) p w ((rf_hg tk i - rf_pp (tk i)) * 64))) ev t := by
      intro p hpe hq
      apply kont
      · exact fun j hj => rf_bko (Or.inl hj)
      · intro e he' hgd
        rw [rf_bki he', hpe]
        exact rf_yag hR hw hq he hA e he' hgd
    rcases rf_kg hw.1 with hk | hk | hk | hk
    · have hp0 := rf_pp0 hk
      have hq : ¬ (tk i = 21 ∨ tk i = 22) := by
        intro z
        rcases z with z | z <;> rw [z] at hp0 <;> exact absurd hp0 (by decide +kernel)
      have hk0 := kontB 0 hp0.symm hq
      rw [hp0] at hk0 ⊢
      exact br_t nI_0 ⟨vi, yw_lf hN hR (by omega) _ (tk i) (ta i) _ _ hk hw.2.2.2.2.1 (fun z => hw.2.2.2.2.2.1 (Or.inl z)) hk0⟩
    · have hp1 := rf_pp1 hk
      have hk0 := kontB 1 hp1.1.symm (fun z => z.elim hp1.2.1 hp1.2.2)
      have el : rf_lt (tk i) (rf_ty tk tt i) (rf_hg tk i) = 0 := by
        unfold rf_lt
        rw [if_neg (by omega)]
      have er : rf_rr (tk i) (rf_ty tk tt i) (rf_hg tk i) = ev (rf_hg tk i - 1) := by
        unfold rf_rr
        rw [if_neg (by omega), hE _ (by omega)]
      rw [el, er] at hk0
      rw [hp1.1] at hk0 ⊢
      rw [nI_clamp (show rf_hg tk i - 1 < 2 ^ 31 by omega)]
      refine br_f (by decide) (br_f hp1.2.1 (br_f hp1.2.2 (br_t rfl ⟨vp_in_nI (by omega) (by omega), ?_⟩)))
      exact yw_a1 hN (by omega) _ (tk i) (ta i) _ _ hk0
    · have hp2 := rf_pp2 hk
      have hk0 := kontB 2 hp2.1.symm (fun z => z.elim hp2.2.1 hp2.2.2)
      have el : rf_lt (tk i) (rf_ty tk tt i) (rf_hg tk i) = ev (rf_hg tk i - 2) := by
        unfold rf_lt
        rw [if_pos hp2.1, hE _ (by omega)]
      have er : rf_rr (tk i) (rf_ty tk tt i) (rf_hg tk i) = ev (rf_hg tk i - 2 + 1) := by
        unfold rf_rr
        rw [if_neg (by omega), show rf_hg tk i - 2 + 1 = rf_hg tk i - 1 by omega, hE _ (by omega)]
      rw [el, er] at hk0
      rw [hp2.1] at hk0 ⊢
      rw [nI_1, nI_clamp (show rf_hg tk i - 2 < 2 ^ 31 by omega), nI_clamp (show rf_hg tk i - 2 + 1 < 2 ^ 31 by omega)]
      refine br_f (by decide) (br_f hp2.2.1 (br_f hp2.2.2 (br_f (by decide) ⟨vp_in_nI (by omega) (by omega), vp_in_nI (by omega) (by omega), ?_⟩)))
      exact yw_a2 hN (by omega) _ (tk i) (ta i) _ _ hk0
    · have hp1 : rf_pp (tk i) = 1 := by
        rcases hk with z | z <;> rw [z] <;> decide +kernel
      obtain ⟨v, hv, hva⟩ := hw.2.2.2.2.2.1 (Or.inr hk)
      have e3 : ta i &&& 3 = nI v := by
        rw [hva, pk_andN (by omega) 2 (by decide), Nat.mod_eq_of_lt (by omega)]
      have ecv : (ta i).toNatClampNeg = v := by
        rw [hva]
        exact nI_clamp (by omega)
      have hread : ∀ e, e < 64 → rf_gd N e → ∀ d, d < N → w ((rf_hg tk i - 1) * 64 + rf_sd v e d) = rf_ps N cur tk ta tt i (rf_hg tk i - 1) (rf_sd v e d) := by
        intro e he' hgd d hd
        have q := rf_sdg hN hv he' hgd hd
        exact hA (rf_hg tk i - 1) (by omega) _ q.2 q.1
      rw [hp1] at kont ⊢
      refine br_f (by decide) ?_
      rcases hk with hk | hk
      · refine br_t hk ?_
        unfold wY_eval_82 wY_eval_104
        rw [ec, e3]
        refine ⟨vi, br_t hk (yw_qu hN (by omega) hv _ 1 (fun t' => kont _ t' (fun j hj => rf_bko (Or.inl hj)) (fun e he' hgd => ?_)))⟩
        rw [rf_bki he', if_neg (by decide), hk, rf_nv21, ecv]
        exact rf_qac (hread e he' hgd)
      · refine br_f (by rw [hk]; decide) (br_t hk ?_)
        unfold wY_eval_82 wY_eval_104
        rw [ec, e3]
        refine ⟨vi, br_f (by rw [hk]; decide) (yw_qu hN (by omega) hv _ 0 (fun t' => kont _ t' (fun j hj => rf_bko (Or.inl hj)) (fun e he' hgd => ?_)))⟩
        rw [rf_bki he', if_pos rfl, hk, rf_nv22, ecv]
        exact rf_qec (hread e he' hgd)
end
