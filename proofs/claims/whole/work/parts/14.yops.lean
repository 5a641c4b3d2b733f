/-! Y's readers and operations -/
section
variable {xn xr xt xd xs : Int32} {ar md tk ta tt sT sM ns cu vs eT tm : Nat → Int32}
theorem yw_va {N j t : Nat} (hN : N ≤ 4) (hj : j < 4) (ht : t < 16) (post : Int32 → Prop) (hp : post (if rf_va N (ar j) t = true then 1 else 0)) : wpY_valid post (nI N, xr, xt, xd, xs, ar, md, tk, ta, tt, sT, sM, ns, cu, vs, eT, tm) (nI j) (nI t) := by
  have vi : vp_in (nI j) 4 := vp_in_nI (by omega) (by omega)
  have ec : ar (nI j).toNatClampNeg = ar j := by rw [nI_clamp (show j < 2 ^ 31 by omega)]
  refine nm_r (e' := nI (t / 4)) (pk_shrN (by omega) _ 2 (by decide)) (nm_r (e' := nI (t % 4)) (pk_andN (by omega) 2 (by decide)) ?_)
  unfold rf_va at hp
  by_cases h1 : t / 4 < N
  · refine br_t (nI_lt h1 (by omega)) ⟨vi, ?_⟩
    rw [ec]
    by_cases hr : ar j = 1
    · rw [if_pos hr] at hp
      refine br_t hr ?_
      by_cases h0 : t % 4 = 0
      · rw [if_pos (decide_eq_true ⟨h1, h0⟩)] at hp
        exact br_t (by rw [h0]; exact nI_0) hp
      · rw [if_neg (by rw [decide_eq_true_eq]; exact fun z => h0 z.2)] at hp
        exact br_f (nI_ne0 (by omega) (by omega)) hp
    · rw [if_neg hr] at hp
      refine br_f hr ?_
      by_cases h0 : t % 4 < N
      · rw [if_pos (decide_eq_true ⟨h1, h0⟩)] at hp
        exact br_f (nI_ge h0 (by omega)) hp
      · rw [if_neg (by rw [decide_eq_true_eq]; exact fun z => h0 z.2)] at hp
        exact br_t (nI_le (by omega) (by omega)) hp
  · refine br_f (nI_nlt (by omega) (by omega)) ?_
    by_cases hr : ar j = 1
    · rw [if_pos hr, if_neg (by rw [decide_eq_true_eq]; exact fun z => h1 z.1)] at hp
      exact hp
    · rw [if_neg hr, if_neg (by rw [decide_eq_true_eq]; exact fun z => h1 z.1)] at hp
      exact hp
theorem yw_ix {j t : Nat} (hj : j < 4) (ht : t < 16) : (nI j * 16) + nI t = nI (j * 16 + t) ∧ vp_in (nI (j * 16 + t)) 64 ∧ (nI (j * 16 + t)).toNatClampNeg = j * 16 + t :=
  ⟨by rw [rf_16, nI_add], vp_in_nI (by omega) (by omega), nI_clamp (by omega)⟩
theorem yw_fc {N R : Nat} (hN : N ≤ 4) (hR : R ≤ 4) (post : Int32 → Prop) (hp : post (nI (rf_cn (rf_fq N ar md) (R * 16)))) : wpY_freeCount post (nI N, nI R, xt, xd, xs, ar, md, tk, ta, tt, sT, sM, ns, cu, vs, eT, tm) := by
  refine loop_0 (fun n i r => wY_freeCount_4 post (nI N) (nI R) xt xd xs ar md tk ta tt sT sM ns cu vs eT tm n r (nI i)) (fun i r => r = nI (rf_cn (rf_fq N ar md) (i * 16))) R 0 nI_0.symm (fun n s h => ?_) (fun n i s hi h k => ?_)
  · refine br_t (nI_le (Nat.le_refl R) (by omega)) ?_
    rw [h]
    exact hp
  · refine br_f (nI_ge hi (by omega)) ?_
    refine loop_0 (fun m t r => wY_freeCount_14 post (wY_freeCount_4 post (nI N) (nI R) xt xd xs ar md tk ta tt sT sM ns cu vs eT tm n) (nI i) (nI N) (nI R) xt xd xs ar md tk ta tt sT sM ns cu vs eT tm m r (nI t)) (fun t r => r = nI (rf_ct N ar md i t)) 16 s (by rw [rf_ct0]; exact h) (fun m r hr => ?_) (fun m t r ht hr kk => ?_)
    · refine br_t (by decide) (nm_r (nI_1 i) (k _ ?_))
      rw [hr, rf_ct16 hN]
    · refine br_f (nI_ge (b := 16) ht (by decide)) (yw_va hN (by omega) ht _ ?_)
      obtain ⟨e1, e2, e3⟩ := yw_ix (j := i) (t := t) (by omega) ht
      by_cases hv : rf_va N (ar i) t = true
      · rw [if_pos hv]
        refine br_f (by decide) ?_
        rw [e1, e3]
        refine ⟨e2, ?_⟩
        have hc := rf_ctv hN ar md i ht hv
        by_cases h0 : md (i * 16 + t) = 0
        · rw [if_pos h0] at hc
          exact br_t h0 (nm_r (e' := nI (rf_ct N ar md i (t + 1))) (by rw [hr, hc, nI_1]) (nm_r (nI_1 t) (kk _ rfl)))
        · rw [if_neg h0, Nat.add_zero] at hc
          exact br_f h0 (nm_r (nI_1 t) (kk _ (by rw [hr, hc]; rfl)))
      · rw [if_neg hv]
        refine br_t rfl (nm_r (nI_1 t) (kk _ ?_))
        rw [hr, rf_ctn ar md i ht hv]
theorem yw_pp (post : Int32 → Prop) (k : Int32) (hk : rf_kd k) (h : post (nI (rf_pp k))) : wpY_pops post (xn, xr, xt, xd, xs, ar, md, tk, ta, tt, sT, sM, ns, cu, vs, eT, tm) k := by
  rcases rf_kg hk with hk | hk | hk | hk
  · rw [rf_pp0 hk] at h
    rcases hk with rfl | rfl | rfl | rfl <;> exact br_f (by decide) h
  · rw [(rf_pp1 hk).1] at h
    rcases hk with rfl | rfl | rfl | rfl | rfl | rfl
    · exact br_t (by decide) (br_t rfl h)
    · exact br_t (by decide) (br_f (by decide) (br_t rfl h))
    · exact br_t (by decide) (br_f (by decide) (br_f (by decide) (br_f (by decide) (br_t (by decide) h))))
    · exact br_t (by decide) (br_f (by decide) (br_f (by decide) (br_f (by decide) (br_t (by decide) h))))
    · exact br_t (by decide) (br_f (by decide) (br_f (by decide) (br_f (by decide) (br_t (by decide) h))))
    · exact br_t (by decide) (br_f (by decide) (br_f (by decide) (br_f (by decide) (br_t (by decide) h))))
  · rw [(rf_pp2 hk).1] at h
    rcases hk with rfl | rfl | rfl | rfl | rfl | rfl | rfl | rfl | rfl | rfl
    iterate 7 exact br_t (by decide) (br_f (by decide) (br_f (by decide) (br_t (by decide) (br_t (by decide) h))))
    iterate 3 exact br_t (by decide) (br_f (by decide) (br_f (by decide) (br_f (by decide) (br_f (by decide) (br_t (by decide) h)))))
  · rcases hk with rfl | rfl
    · rw [rf_pp21] at h
      exact br_t (by decide) (br_f (by decide) (br_f (by decide) (br_f (by decide) (br_f (by decide) (br_f (by decide) h)))))
    · rw [rf_pp22] at h
      exact br_t (by decide) (br_f (by decide) (br_f (by decide) (br_f (by decide) (br_f (by decide) (br_f (by decide) h)))))
theorem yw_co {N : Nat} (hN : N ≤ 4) (post : Int32 → Prop) (x y : Int32) (h : post (rf_yc N x y)) : wpY_compose post (nI N, xr, xt, xd, xs, ar, md, tk, ta, tt, sT, sM, ns, cu, vs, eT, tm) x y := by
  refine rf_lp (fun n i r => wY_compose_5 post x y (nI N) xr xt xd xs ar md tk ta tt sT sM ns cu vs eT tm n r (nI i)) (fun a r => rf_o1 r (fun b => if bt x (a * 4 + b) = true then ((y >>> (nI (b * 4) &&& 31)) &&& 15) <<< (nI (a * 4) &&& 31) else 0) N) N 0 (fun n => br_t (nI_le (Nat.le_refl N) (by omega)) ?_) (fun n i r hi hn => ?_)
  · rw [rf_o2it 0 (fun a b => if bt x (a * 4 + b) = true then ((y >>> (nI (b * 4) &&& 31)) &&& 15) <<< (nI (a * 4) &&& 31) else 0) N N]
    exact h
  · refine br_f (nI_ge hi (by omega)) ?_
    refine rf_lo (fun m j z => wY_compose_17 post (wY_compose_5 post x y (nI N) xr xt xd xs ar md tk ta tt sT sM ns cu vs eT tm n) x y (nI i) (nI N) xr xt xd xs ar md tk ta tt sT sM ns cu vs eT tm m z (nI j)) (fun b => if bt x (i * 4 + b) = true then ((y >>> (nI (b * 4) &&& 31)) &&& 15) <<< (nI (i * 4) &&& 31) else 0) N r (fun m => br_t (nI_le (Nat.le_refl N) (by omega)) (nm_r (nI_1 i) hn)) (fun m j z hj hm => ?_)
    have hm : wY_compose_17 post (wY_compose_5 post x y (nI N) xr xt xd xs ar md tk ta tt sT sM ns cu vs eT tm n) x y (nI i) (nI N) xr xt xd xs ar md tk ta tt sT sM ns cu vs eT tm m (z ||| (if bt x (i * 4 + j) = true then ((y >>> (nI (j * 4) &&& 31)) &&& 15) <<< (nI (i * 4) &&& 31) else 0)) (nI (j + 1)) := hm
    refine br_f (nI_ge hj (by omega)) ?_
    by_cases hb : bt x (i * 4 + j) = true
    · rw [if_pos hb] at hm
      exact br_t (by rw [rf_4, nI_add]; exact (rf_bo x (i * 4 + j) (by omega)).mpr hb) (nm_r (by rw [rf_4, rf_4]) (nm_r (nI_1 j) hm))
    · rw [if_neg hb, rf_or0] at hm
      exact br_f (by rw [rf_4, nI_add]; exact fun q => hb ((rf_bo x (i * 4 + j) (by omega)).mp q)) (nm_r (nI_1 j) hm)
theorem rf_b01 (x : Int32) (k : Nat) (hk : k < 32) {A : Prop} {B : Prop} (ht : bt x k = true → A) (hf : ¬ bt x k = true → B) : (((x >>> (nI k &&& 31)) &&& 1) = 1 → A) ∧ (¬ ((x >>> (nI k &&& 31)) &&& 1) = 1 → B) :=
  ⟨fun z => ht ((rf_bo x k hk).mp z), fun z => hf (fun w => z ((rf_bo x k hk).mpr w))⟩
theorem yw_p0 {N : Nat} (hN : N ≤ 4) (post : Int32 → Prop) (x y : Int32) (h : post (rf_y0 N x y)) : wpY_pairOp post (nI N, xr, xt, xd, xs, ar, md, tk, ta, tt, sT, sM, ns, cu, vs, eT, tm) 0 x y := by
  refine rf_lp (fun n i r => wY_pairOp_6 post 0 x y (nI N) xr xt xd xs ar md tk ta tt sT sM ns cu vs eT tm n r (nI i)) (fun a r => rf_o1 r (fun b => if bt x a = true ∧ bt y (a * 4 + b) = true then (1 : Int32) <<< (nI b &&& 31) else 0) N) N 0 (fun n => br_t (nI_le (Nat.le_refl N) (by omega)) ?_) (fun n i r hi hn => ?_)
  · rw [rf_o2it 0 (fun a b => if bt x a = true ∧ bt y (a * 4 + b) = true then (1 : Int32) <<< (nI b &&& 31) else 0) N N]
    exact h
  · refine br_f (nI_ge hi (by omega)) ?_
    refine rf_lo (fun m j z => wY_pairOp_18 post (wY_pairOp_6 post 0 x y (nI N) xr xt xd xs ar md tk ta tt sT sM ns cu vs eT tm n) 0 x y (nI i) (nI N) xr xt xd xs ar md tk ta tt sT sM ns cu vs eT tm m z (nI j)) (fun b => if bt x i = true ∧ bt y (i * 4 + b) = true then (1 : Int32) <<< (nI b &&& 31) else 0) N r (fun m => br_t (nI_le (Nat.le_refl N) (by omega)) (nm_r (nI_1 i) hn)) (fun m j z hj hm => ?_)
    have hm : wY_pairOp_18 post (wY_pairOp_6 post 0 x y (nI N) xr xt xd xs ar md tk ta tt sT sM ns cu vs eT tm n) 0 x y (nI i) (nI N) xr xt xd xs ar md tk ta tt sT sM ns cu vs eT tm m (z ||| (if bt x i = true ∧ bt y (i * 4 + j) = true then (1 : Int32) <<< (nI j &&& 31) else 0)) (nI (j + 1)) := hm
    refine br_f (nI_ge hj (by omega)) (nm_e (br_f (by decide) (nm_r (e' := (y >>> (nI (i * 4 + j) &&& 31)) &&& 1) (by rw [rf_4, nI_add]) (br_t rfl ?_))))
    refine rf_b01 x i (by omega) (fun h1 => ?_) (fun h1 => ?_)
    · refine rf_b01 y (i * 4 + j) (by omega) (fun h2 => ?_) (fun h2 => ?_)
      · rw [if_pos ⟨h1, h2⟩] at hm
        exact nm_e (br_f (by decide) (br_f (by decide) (br_f (by decide) (nm_r (nI_1 j) hm))))
      · rw [if_neg (fun z => h2 z.2), rf_or0] at hm
        exact br_f (by decide) (br_f (by decide) (br_f (by decide) (nm_r (nI_1 j) hm)))
    · rw [if_neg (fun z => h1 z.1), rf_or0] at hm
      exact br_f (by decide) (br_f (by decide) (br_f (by decide) (nm_r (nI_1 j) hm)))
theorem yw_p1 {N : Nat} (hN : N ≤ 4) (post : Int32 → Prop) (x y : Int32) (h : post (rf_y1 N x y)) : wpY_pairOp post (nI N, xr, xt, xd, xs, ar, md, tk, ta, tt, sT, sM, ns, cu, vs, eT, tm) 1 x y := by
  refine rf_lp (fun n i r => wY_pairOp_6 post 1 x y (nI N) xr xt xd xs ar md tk ta tt sT sM ns cu vs eT tm n r (nI i)) (fun a r => rf_o1 r (fun b => if bt x (a * 4 + b) = true ∧ bt y b = true then (1 : Int32) <<< (nI a &&& 31) else 0) N) N 0 (fun n => br_t (nI_le (Nat.le_refl N) (by omega)) ?_) (fun n i r hi hn => ?_)
  · rw [rf_o2it 0 (fun a b => if bt x (a * 4 + b) = true ∧ bt y b = true then (1 : Int32) <<< (nI a &&& 31) else 0) N N]
    exact h
  · refine br_f (nI_ge hi (by omega)) ?_
    refine rf_lo (fun m j z => wY_pairOp_18 post (wY_pairOp_6 post 1 x y (nI N) xr xt xd xs ar md tk ta tt sT sM ns cu vs eT tm n) 1 x y (nI i) (nI N) xr xt xd xs ar md tk ta tt sT sM ns cu vs eT tm m z (nI j)) (fun b => if bt x (i * 4 + b) = true ∧ bt y b = true then (1 : Int32) <<< (nI i &&& 31) else 0) N r (fun m => br_t (nI_le (Nat.le_refl N) (by omega)) (nm_r (nI_1 i) hn)) (fun m j z hj hm => ?_)
    have hm : wY_pairOp_18 post (wY_pairOp_6 post 1 x y (nI N) xr xt xd xs ar md tk ta tt sT sM ns cu vs eT tm n) 1 x y (nI i) (nI N) xr xt xd xs ar md tk ta tt sT sM ns cu vs eT tm m (z ||| (if bt x (i * 4 + j) = true ∧ bt y j = true then (1 : Int32) <<< (nI i &&& 31) else 0)) (nI (j + 1)) := hm
    refine br_f (nI_ge hj (by omega)) (nm_e (br_t rfl (nm_r (e' := (x >>> (nI (i * 4 + j) &&& 31)) &&& 1) (by rw [rf_4, nI_add]) (br_f (by decide) (br_t rfl ?_)))))
    refine rf_b01 x (i * 4 + j) (by omega) (fun h1 => ?_) (fun h1 => ?_)
    · refine rf_b01 y j (by omega) (fun h2 => ?_) (fun h2 => ?_)
      · rw [if_pos ⟨h1, h2⟩] at hm
        exact nm_e (br_f (by decide) (br_f (by decide) (nm_r (nI_1 j) hm)))
      · rw [if_neg (fun z => h2 z.2), rf_or0] at hm
        exact br_f (by decide) (br_f (by decide) (nm_r (nI_1 j) hm))
    · rw [if_neg (fun z => h1 z.1), rf_or0] at hm
      exact br_f (by decide) (br_f (by decide) (nm_r (nI_1 j) hm))
theorem yw_p2 {N : Nat} (hN : N ≤ 4) (post : Int32 → Prop) (x y : Int32) (h : post (rf_y2 N x y)) : wpY_pairOp post (nI N, xr, xt, xd, xs, ar, md, tk, ta, tt, sT, sM, ns, cu, vs, eT, tm) 2 x y := by
  refine rf_lp (fun n i r => wY_pairOp_6 post 2 x y (nI N) xr xt xd xs ar md tk ta tt sT sM ns cu vs eT tm n r (nI i)) (fun a r => rf_o1 r (fun b => if bt x a = true ∧ bt y b = true then (1 : Int32) <<< (nI (a * 4 + b) &&& 31) else 0) N) N 0 (fun n => br_t (nI_le (Nat.le_refl N) (by omega)) ?_) (fun n i r hi hn => ?_)
  · rw [rf_o2it 0 (fun a b => if bt x a = true ∧ bt y b = true then (1 : Int32) <<< (nI (a * 4 + b) &&& 31) else 0) N N]
    exact h
  · refine br_f (nI_ge hi (by omega)) ?_
    refine rf_lo (fun m j z => wY_pairOp_18 post (wY_pairOp_6 post 2 x y (nI N) xr xt xd xs ar md tk ta tt sT sM ns cu vs eT tm n) 2 x y (nI i) (nI N) xr xt xd xs ar md tk ta tt sT sM ns cu vs eT tm m z (nI j)) (fun b => if bt x i = true ∧ bt y b = true then (1 : Int32) <<< (nI (i * 4 + b) &&& 31) else 0) N r (fun m => br_t (nI_le (Nat.le_refl N) (by omega)) (nm_r (nI_1 i) hn)) (fun m j z hj hm => ?_)
    have hm : wY_pairOp_18 post (wY_pairOp_6 post 2 x y (nI N) xr xt xd xs ar md tk ta tt sT sM ns cu vs eT tm n) 2 x y (nI i) (nI N) xr xt xd xs ar md tk ta tt sT sM ns cu vs eT tm m (z ||| (if bt x i = true ∧ bt y j = true then (1 : Int32) <<< (nI (i * 4 + j) &&& 31) else 0)) (nI (j + 1)) := hm
    refine br_f (nI_ge hj (by omega)) (nm_e (br_f (by decide) (nm_e (br_f (by decide) (br_f (by decide) (br_t rfl ?_))))))
    refine rf_b01 x i (by omega) (fun h1 => ?_) (fun h1 => ?_)
    · refine rf_b01 y j (by omega) (fun h2 => ?_) (fun h2 => ?_)
      · rw [if_pos ⟨h1, h2⟩] at hm
        exact nm_r (by rw [rf_4, nI_add]) (br_f (by decide) (nm_r (nI_1 j) hm))
      · rw [if_neg (fun z => h2 z.2), rf_or0] at hm
        exact br_f (by decide) (nm_r (nI_1 j) hm)
    · rw [if_neg (fun z => h1 z.1), rf_or0] at hm
      exact br_f (by decide) (nm_r (nI_1 j) hm)
theorem yw_p3 {N : Nat} (hN : N ≤ 4) (post : Int32 → Prop) (x y : Int32) (h : post (rf_y3 N x)) : wpY_pairOp post (nI N, xr, xt, xd, xs, ar, md, tk, ta, tt, sT, sM, ns, cu, vs, eT, tm) 3 x y := by
  refine rf_lp (fun n i r => wY_pairOp_6 post 3 x y (nI N) xr xt xd xs ar md tk ta tt sT sM ns cu vs eT tm n r (nI i)) (fun a r => rf_o1 r (fun b => if bt x (a * 4 + b) = true then (1 : Int32) <<< (nI (b * 4 + a) &&& 31) else 0) N) N 0 (fun n => br_t (nI_le (Nat.le_refl N) (by omega)) ?_) (fun n i r hi hn => ?_)
  · rw [rf_o2it 0 (fun a b => if bt x (a * 4 + b) = true then (1 : Int32) <<< (nI (b * 4 + a) &&& 31) else 0) N N]
    exact h
  · refine br_f (nI_ge hi (by omega)) ?_
    refine rf_lo (fun m j z => wY_pairOp_18 post (wY_pairOp_6 post 3 x y (nI N) xr xt xd xs ar md tk ta tt sT sM ns cu vs eT tm n) 3 x y (nI i) (nI N) xr xt xd xs ar md tk ta tt sT sM ns cu vs eT tm m z (nI j)) (fun b => if bt x (i * 4 + b) = true then (1 : Int32) <<< (nI (b * 4 + i) &&& 31) else 0) N r (fun m => br_t (nI_le (Nat.le_refl N) (by omega)) (nm_r (nI_1 i) hn)) (fun m j z hj hm => ?_)
    have hm : wY_pairOp_18 post (wY_pairOp_6 post 3 x y (nI N) xr xt xd xs ar md tk ta tt sT sM ns cu vs eT tm n) 3 x y (nI i) (nI N) xr xt xd xs ar md tk ta tt sT sM ns cu vs eT tm m (z ||| (if bt x (i * 4 + j) = true then (1 : Int32) <<< (nI (j * 4 + i) &&& 31) else 0)) (nI (j + 1)) := hm
    refine br_f (nI_ge hj (by omega)) (nm_e (br_f (by decide) (nm_e (br_f (by decide) (br_f (by decide) (br_f (by decide) (br_t rfl ?_)))))))
    by_cases hb : bt x (i * 4 + j) = true
    · rw [if_pos hb] at hm
      exact br_t (by rw [rf_4, nI_add]; exact (rf_bo x (i * 4 + j) (by omega)).mpr hb) (nm_r (by rw [rf_4, nI_add]) (nm_r (nI_1 j) hm))
    · rw [if_neg hb, rf_or0] at hm
      exact br_f (by rw [rf_4, nI_add]; exact fun q => hb ((rf_bo x (i * 4 + j) (by omega)).mp q)) (nm_r (nI_1 j) hm)
theorem yw_q1 {N : Nat} (hN : N ≤ 4) (post : Int32 → Prop) (k x : Int32) (hp : post (rf_q1 N k x)) : wpY_op1 post (nI N, xr, xt, xd, xs, ar, md, tk, ta, tt, sT, sM, ns, cu, vs, eT, tm) k x := by
  unfold rf_q1 at hp
  by_cases h1 : k = 10
  · rw [if_pos h1] at hp
    exact br_t h1 (yw_p3 hN _ x 0 hp)
  rw [if_neg h1] at hp
  refine br_f h1 ?_
  by_cases h2 : k = 11
  · rw [if_pos h2] at hp
    refine br_t h2 ?_
    refine rf_lp (fun n i r => wY_op1_25 post (nI N) xr xt xd xs ar md tk ta tt sT sM ns cu vs eT tm n r (nI i)) (fun _ d => d ||| rf_yc N d d) N x (fun n => br_t (nI_le (Nat.le_refl N) (by omega)) hp) (fun n i r hi hn => ?_)
    exact br_f (nI_ge hi (by omega)) (yw_co hN _ r r (nm_e (nm_r (nI_1 i) hn)))
  rw [if_neg h2] at hp
  refine br_f h2 ?_
  by_cases h3 : k = 14
  · rw [if_pos h3] at hp
    refine br_t h3 ?_
    by_cases hx : x = 0
    · rw [if_pos hx] at hp
      exact br_t hx hp
    · rw [if_neg hx] at hp
      exact br_f hx hp
  rw [if_neg h3] at hp
  refine br_f h3 ?_
  by_cases h4 : k = 16
  · rw [if_pos h4] at hp
    refine br_t h4 ?_
    by_cases hx : x = 0
    · rw [if_neg (fun z => z.1 hx)] at hp
      exact br_t hx hp
    · refine br_f hx ?_
      by_cases hy : x &&& (x - 1) = 0
      · rw [if_pos ⟨hx, hy⟩] at hp
        exact br_t hy hp
      · rw [if_neg (fun z => hy z.2)] at hp
        exact br_f hy hp
  rw [if_neg h4] at hp
  refine br_f h4 ?_
  by_cases hx : x = 0
  · rw [if_pos hx] at hp
    exact br_t hx hp
  · rw [if_neg hx] at hp
    exact br_f hx hp
theorem yw_q2 {N : Nat} (hN : N ≤ 4) (post : Int32 → Prop) (k lt rt l x : Int32) (hp : post (rf_q2 N k lt rt l x)) : wpY_op2 post (nI N, xr, xt, xd, xs, ar, md, tk, ta, tt, sT, sM, ns, cu, vs, eT, tm) k lt rt l x := by
  unfold rf_q2 at hp
  by_cases h1 : k = 5
  · rw [if_pos (Or.inl h1)] at hp
    exact br_t h1 hp
  refine br_f h1 ?_
  by_cases h2 : k = 19
  · rw [if_pos (Or.inr h2)] at hp
    exact br_t h2 hp
  rw [if_neg (fun z => z.elim h1 h2)] at hp
  refine br_f h2 ?_
  by_cases h3 : k = 6
  · rw [if_pos (Or.inl h3)] at hp
    exact br_t h3 hp
  refine br_f h3 ?_
  by_cases h4 : k = 18
  · rw [if_pos (Or.inr h4)] at hp
    exact br_t h4 hp
  rw [if_neg (fun z => z.elim h3 h4)] at hp
  refine br_f h4 ?_
  by_cases h5 : k = 7
  · rw [if_pos h5] at hp
    exact br_t h5 hp
  rw [if_neg h5] at hp
  refine br_f h5 ?_
  by_cases h6 : k = 8
  · rw [if_pos h6] at hp
    refine br_t h6 ?_
    by_cases hl : lt = 1
    · rw [if_pos hl] at hp
      exact br_t hl (yw_p0 hN _ l x hp)
    · rw [if_neg hl] at hp
      refine br_f hl ?_
      by_cases hr : rt = 1
      · rw [if_pos hr] at hp
        exact br_t hr (yw_p1 hN _ l x hp)
      · rw [if_neg hr] at hp
        exact br_f hr (yw_co hN _ l x hp)
  rw [if_neg h6] at hp
  refine br_f h6 ?_
  by_cases h7 : k = 9
  · rw [if_pos h7] at hp
    exact br_t h7 (yw_p2 hN _ l x hp)
  rw [if_neg h7] at hp
  refine br_f h7 ?_
  by_cases h8 : k = 12
  · rw [if_pos h8] at hp
    refine br_t h8 ?_
    by_cases hx : l &&& (x ^^^ (-1)) = 0
    · rw [if_pos hx] at hp
      exact br_t hx hp
    · rw [if_neg hx] at hp
      exact br_f hx hp
  rw [if_neg h8] at hp
  refine br_f h8 ?_
  by_cases h9 : k = 13
  · rw [if_pos h9] at hp
    refine br_t h9 ?_
    by_cases hx : l = x
    · rw [if_pos hx] at hp
      exact br_t hx hp
    · rw [if_neg hx] at hp
      exact br_f hx hp
  rw [if_neg h9] at hp
  refine br_f h9 ?_
  by_cases hl : l = 0
  · rw [if_pos (Or.inl hl)] at hp
    exact br_t hl hp
  · refine br_f hl ?_
    by_cases hx : x = 0
    · rw [if_neg (fun z => z.elim hl (fun w => w hx))] at hp
      exact br_t hx hp
    · rw [if_pos (Or.inr hx)] at hp
      exact br_f hx hp
end
