/-! X's operations on values: each walk gives its pure function -/
theorem rf_lo (W : Nat → Nat → Int32 → Prop) (f : Nat → Int32) (e : Nat) (z : Int32) (hx : ∀ n, W (n + 1) e (rf_o1 z f e)) (hs : ∀ n i r, i < e → W n (i + 1) (r ||| f i) → W (n + 1) i r) : ∃ n, W n 0 z :=
  rf_lp W (fun i r => r ||| f i) e z (fun n => by rw [rf_o1it]; exact hx n) hs
theorem xw_im (post : Int32 → Prop) (s p : Int32) (h : post (rf_im s p)) : wpX_imageOf post s p := by
  refine rf_lo (fun n i r => wX_imageOf_4 post s p n r (nI i)) (fun a => if bt s a = true then (p >>> (nI (a * 4) &&& 31)) &&& 15 else 0) 4 0 (fun n => br_t (by decide) h) (fun n i r hi hn => ?_)
  have hn : wX_imageOf_4 post s p n (r ||| (if bt s i = true then (p >>> (nI (i * 4) &&& 31)) &&& 15 else 0)) (nI (i + 1)) := hn
  refine br_f (nI_ge (b := 4) hi (by decide)) ?_
  by_cases hb : bt s i = true
  · rw [if_pos hb] at hn
    exact br_f (fun z => (rf_bz s i (by omega)).mp z hb) (nm_r (by rw [rf_4]) (nm_r (nI_1 i) hn))
  · rw [if_neg hb, rf_or0] at hn
    exact br_t ((rf_bz s i (by omega)).mpr hb) (nm_r (nI_1 i) hn)
theorem xw_pre (post : Int32 → Prop) (p s : Int32) (h : post (rf_pre p s)) : wpX_preimageOf post p s := by
  refine rf_lo (fun n i r => wX_preimageOf_4 post p s n r (nI i)) (fun a => if ¬ ((p >>> (nI (a * 4) &&& 31)) &&& s = 0) then (1 : Int32) <<< (nI a &&& 31) else 0) 4 0 (fun n => br_t (by decide) h) (fun n i r hi hn => ?_)
  have hn : wX_preimageOf_4 post p s n (r ||| (if ¬ ((p >>> (nI (i * 4) &&& 31)) &&& s = 0) then (1 : Int32) <<< (nI i &&& 31) else 0)) (nI (i + 1)) := hn
  refine br_f (nI_ge (b := 4) hi (by decide)) ?_
  by_cases hb : (p >>> (nI (i * 4) &&& 31)) &&& s = 0
  · rw [if_neg (fun z => z hb), rf_or0] at hn
    exact br_t (by rw [rf_4]; exact hb) (nm_r (nI_1 i) hn)
  · rw [if_pos hb] at hn
    exact br_f (by rw [rf_4]; exact hb) (nm_e (nm_r (nI_1 i) hn))
theorem xw_co (post : Int32 → Prop) (l r : Int32) (h : post (rf_co l r)) : wpX_compositionOf post l r := by
  refine rf_lo (fun n i z => wX_compositionOf_4 post l r n z (nI i)) (fun a => rf_im ((l >>> (nI (a * 4) &&& 31)) &&& 15) r <<< (nI (a * 4) &&& 31)) 4 0 (fun n => br_t (by decide) h) (fun n i z hi hn => ?_)
  have hn : wX_compositionOf_4 post l r n (z ||| rf_im ((l >>> (nI (i * 4) &&& 31)) &&& 15) r <<< (nI (i * 4) &&& 31)) (nI (i + 1)) := hn
  refine br_f (nI_ge (b := 4) hi (by decide)) ?_
  refine nm_r (e' := (l >>> (nI (i * 4) &&& 31)) &&& 15) (by rw [rf_4]) ?_
  apply xw_im
  exact nm_r (by rw [rf_4]) (nm_r (nI_1 i) hn)
theorem xw_pr (post : Int32 → Prop) (l r : Int32) (h : post (rf_pr l r)) : wpX_productOf post l r := by
  refine rf_lo (fun n i z => wX_productOf_4 post l r n z (nI i)) (fun a => if bt l a = true then r <<< (nI (a * 4) &&& 31) else 0) 4 0 (fun n => br_t (by decide) h) (fun n i z hi hn => ?_)
  have hn : wX_productOf_4 post l r n (z ||| (if bt l i = true then r <<< (nI (i * 4) &&& 31) else 0)) (nI (i + 1)) := hn
  refine br_f (nI_ge (b := 4) hi (by decide)) ?_
  by_cases hb : bt l i = true
  · rw [if_pos hb] at hn
    exact br_f (fun z => (rf_bz l i (by omega)).mp z hb) (nm_r (by rw [rf_4]) (nm_r (nI_1 i) hn))
  · rw [if_neg hb, rf_or0] at hn
    exact br_t ((rf_bz l i (by omega)).mpr hb) (nm_r (nI_1 i) hn)
theorem xw_tr (post : Int32 → Prop) (p : Int32) (h : post (rf_tr p)) : wpX_transposeOf post p := by
  refine rf_lp (fun n i r => wX_transposeOf_4 post p n r (nI i)) (fun a r => rf_o1 r (fun b => ((p >>> (nI (a * 4 + b) &&& 31)) &&& 1) <<< (nI (b * 4 + a) &&& 31)) 4) 4 0 (fun n => br_t (by decide) ?_) (fun n i r hi hn => ?_)
  · rw [rf_o2it 0 (fun a b => ((p >>> (nI (a * 4 + b) &&& 31)) &&& 1) <<< (nI (b * 4 + a) &&& 31)) 4 4]
    exact h
  · refine br_f (nI_ge (b := 4) hi (by decide)) ?_
    refine rf_lo (fun m j z => wX_transposeOf_11 post (wX_transposeOf_4 post p n) p (nI i) m z (nI j)) (fun b => ((p >>> (nI (i * 4 + b) &&& 31)) &&& 1) <<< (nI (b * 4 + i) &&& 31)) 4 r (fun m => br_t (by decide) (nm_r (nI_1 i) hn)) (fun m j z hj hm => ?_)
    refine br_f (nI_ge (b := 4) hj (by decide)) ?_
    exact nm_r (by rw [rf_4, rf_4, nI_add, nI_add]) (nm_r (nI_1 j) hm)
theorem xw_cl (post : Int32 → Prop) (p : Int32) (h : post (rf_wc p 4)) : wpX_closureOf post p := by
  refine rf_lp (fun n i r => wX_closureOf_4 post n r (nI i)) rf_ws 4 p (fun n => br_t (by decide) h) (fun n i r hi hn => ?_)
  refine br_f (nI_ge (b := 4) hi (by decide)) ?_
  refine nm_r (e' := (r >>> (nI (i * 4) &&& 31)) &&& 15) (by rw [rf_4]) ?_
  refine rf_lp (fun m j z => wX_closureOf_21 post (wX_closureOf_4 post n) (nI i) ((r >>> (nI (i * 4) &&& 31)) &&& 15) m z (nI j)) (fun a d => if bt d (a * 4 + i) = true then d ||| (((r >>> (nI (i * 4) &&& 31)) &&& 15) <<< (nI (a * 4) &&& 31)) else d) 4 r (fun m => br_t (by decide) (nm_r (nI_1 i) hn)) (fun m j z hj hm => ?_)
  have hm : wX_closureOf_21 post (wX_closureOf_4 post n) (nI i) ((r >>> (nI (i * 4) &&& 31)) &&& 15) m (if bt z (j * 4 + i) = true then z ||| (((r >>> (nI (i * 4) &&& 31)) &&& 15) <<< (nI (j * 4) &&& 31)) else z) (nI (j + 1)) := hm
  refine br_f (nI_ge (b := 4) hj (by decide)) ?_
  by_cases hb : bt z (j * 4 + i) = true
  · rw [if_pos hb] at hm
    exact br_f (by rw [rf_4, nI_add]; exact fun q => (rf_bz z (j * 4 + i) (by omega)).mp q hb) (nm_r (by rw [rf_4]) (nm_r (nI_1 j) hm))
  · rw [if_neg hb] at hm
    exact br_t (by rw [rf_4, nI_add]; exact (rf_bz z (j * 4 + i) (by omega)).mpr hb) (nm_r (nI_1 j) hm)
theorem xw_sz (post : Int32 → Prop) (x : Int32) (h : post (rf_sz x 16)) : wpX_sizeOf post x := by
  refine rf_lp (fun n i r => wX_sizeOf_4 post x n r (nI i)) (fun i r => r + ((x >>> (nI i &&& 31)) &&& 1)) 16 0 (fun n => br_t (by decide) h) (fun n i r hi hn => ?_)
  exact br_f (nI_ge (b := 16) hi (by decide)) (nm_e (nm_r (nI_1 i) hn))
theorem xw_x1 (post : Int32 → Prop) (k x : Int32) (hk : k = 10 ∨ k = 11 ∨ k = 14 ∨ k = 15 ∨ k = 16 ∨ k = 17) (h : post (rf_x1 k x)) : wpX_valueOverOne post k x := by
  rcases hk with rfl | rfl | rfl | rfl | rfl | rfl
  · exact br_f (by decide) (br_f (by decide) (br_t rfl (xw_tr _ _ h)))
  · exact br_f (by decide) (br_f (by decide) (br_f (by decide) (br_t rfl (xw_cl _ _ h))))
  · have h : post (if x = 0 then 0 else 1) := h
    refine br_f (by decide) (br_f (by decide) (br_f (by decide) (br_f (by decide) (br_f (by decide) (br_f (by decide) (br_t rfl ?_))))))
    by_cases hx : x = 0
    · rw [if_pos hx] at h
      exact br_t hx h
    · rw [if_neg hx] at h
      exact br_f hx h
  · have h : post (if x = 0 then 1 else 0) := h
    refine br_f (by decide) (br_f (by decide) (br_f (by decide) (br_f (by decide) (br_f (by decide) (br_f (by decide) (br_f (by decide) (br_t rfl ?_)))))))
    by_cases hx : x = 0
    · rw [if_pos hx] at h
      exact br_t hx h
    · rw [if_neg hx] at h
      exact br_f hx h
  · have h : post (if ¬ x = 0 ∧ x &&& (x - 1) = 0 then 1 else 0) := h
    refine br_f (by decide) (br_f (by decide) (br_f (by decide) (br_f (by decide) (br_f (by decide) (br_f (by decide) (br_f (by decide) (br_f (by decide) (br_t rfl ?_))))))))
    by_cases hx : x = 0
    · rw [if_neg (fun z => z.1 hx)] at h
      exact br_t hx h
    · refine br_f hx ?_
      by_cases hy : x &&& (x - 1) = 0
      · rw [if_pos ⟨hx, hy⟩] at h
        exact br_t hy h
      · rw [if_neg (fun z => hy z.2)] at h
        exact br_f hy h
  · have h : post (if x = 0 then 1 else 0) := h
    refine br_f (by decide) (br_t (by decide) ?_)
    by_cases hx : x = 0
    · rw [if_pos hx] at h
      exact br_t hx h
    · rw [if_neg hx] at h
      exact br_f hx h
theorem xw_149 (post : Int32 → Prop) (l x : Int32) (h : post (if l &&& (x ^^^ (-1)) = 0 then 1 else 0)) : wX_valueOverTwo_149 post l x := by
  by_cases hx : l &&& (x ^^^ (-1)) = 0
  · rw [if_pos hx] at h
    exact br_t hx h
  · rw [if_neg hx] at h
    exact br_f hx h
theorem xw_x2 (post : Int32 → Prop) (s l x : Int32) (hk : s = 5 ∨ s = 6 ∨ s = 7 ∨ s = 9 ∨ s = 12 ∨ s = 13 ∨ s = 18 ∨ s = 19 ∨ s = 20 ∨ s = 23 ∨ s = 24 ∨ s = 25) (h : post (rf_x2 s l x)) : wpX_valueOverTwo post s l x := by
  rcases hk with rfl | rfl | rfl | rfl | rfl | rfl | rfl | rfl | rfl | rfl | rfl | rfl <;> refine br_f (by decide) (br_f (by decide) ?_)
  · exact br_t rfl h
  · exact br_f (by decide) (br_t rfl h)
  · exact br_f (by decide) (br_f (by decide) (br_t rfl h))
  · exact br_f (by decide) (br_f (by decide) (br_f (by decide) (br_f (by decide) (br_t rfl (xw_pr _ _ _ h)))))
  · iterate 7 refine br_f (by decide) ?_
    exact br_t rfl (xw_149 _ _ _ h)
  · iterate 8 refine br_f (by decide) ?_
    refine br_t rfl ?_
    have h : post (if l = x then 1 else 0) := h
    by_cases hx : l = x
    · rw [if_pos hx] at h
      exact br_t hx h
    · rw [if_neg hx] at h
      exact br_f hx h
  · iterate 13 refine br_f (by decide) ?_
    exact br_t rfl h
  · iterate 14 refine br_f (by decide) ?_
    exact br_t rfl h
  · iterate 15 refine br_f (by decide) ?_
    exact br_t rfl (xw_149 _ _ _ h)
  · iterate 18 refine br_f (by decide) ?_
    exact br_t rfl (xw_im _ _ _ h)
  · iterate 19 refine br_f (by decide) ?_
    exact br_t rfl (xw_pre _ _ _ h)
  · iterate 20 refine br_f (by decide) ?_
    exact br_t rfl (xw_co _ _ _ h)
theorem xw_oc (post : Int32 → Prop) (k : Int32) (hk : rf_kd k) (h : post (nI (rf_pp k))) : wpX_operandCount post k := by
  rcases rf_kg hk with hk | hk | hk | hk
  · rw [rf_pp0 hk] at h
    rcases hk with rfl | rfl | rfl | rfl
    · exact br_f (by decide) (br_f (by decide) (br_t rfl h))
    · exact br_f (by decide) (br_f (by decide) (br_f (by decide) (br_t rfl h)))
    · exact br_f (by decide) (br_f (by decide) (br_f (by decide) (br_f (by decide) (br_t rfl h))))
    · exact br_f (by decide) (br_f (by decide) (br_f (by decide) (br_f (by decide) (br_f (by decide) (br_t rfl h)))))
  · rw [(rf_pp1 hk).1] at h
    rcases hk with rfl | rfl | rfl | rfl | rfl | rfl
    · iterate 11 refine br_f (by decide) ?_
      exact br_t rfl h
    · iterate 12 refine br_f (by decide) ?_
      exact br_t rfl h
    · iterate 15 refine br_f (by decide) ?_
      exact br_t rfl h
    · iterate 16 refine br_f (by decide) ?_
      exact br_t rfl h
    · iterate 17 refine br_f (by decide) ?_
      exact br_t rfl h
    · iterate 18 refine br_f (by decide) ?_
      exact br_t rfl h
  · rw [(rf_pp2 hk).1] at h
    rcases hk with rfl | rfl | rfl | rfl | rfl | rfl | rfl | rfl | rfl | rfl
    · iterate 6 refine br_f (by decide) ?_
      exact br_t rfl h
    · iterate 7 refine br_f (by decide) ?_
      exact br_t rfl h
    · iterate 8 refine br_f (by decide) ?_
      exact br_t rfl h
    · iterate 9 refine br_f (by decide) ?_
      exact br_t rfl h
    · iterate 10 refine br_f (by decide) ?_
      exact br_t rfl h
    · iterate 13 refine br_f (by decide) ?_
      exact br_t rfl h
    · iterate 14 refine br_f (by decide) ?_
      exact br_t rfl h
    · iterate 19 refine br_f (by decide) ?_
      exact br_t rfl h
    · iterate 20 refine br_f (by decide) ?_
      exact br_t rfl h
    · iterate 21 refine br_f (by decide) ?_
      exact br_t rfl h
  · rcases hk with rfl | rfl
    · rw [rf_pp21] at h
      iterate 22 refine br_f (by decide) ?_
      exact br_t rfl h
    · rw [rf_pp22] at h
      iterate 23 refine br_f (by decide) ?_
      exact br_t rfl h
theorem xw_iq (post : Int32 → Prop) (k : Int32) (h : post (if k = 21 ∨ k = 22 then 1 else 0)) : wpX_isQuantifier post k := by
  by_cases h1 : k = 21
  · rw [if_pos (Or.inl h1)] at h
    exact br_t h1 h
  · by_cases h2 : k = 22
    · rw [if_pos (Or.inr h2)] at h
      exact br_f h1 (br_t h2 h)
    · rw [if_neg (fun z => z.elim h1 h2)] at h
      exact br_f h1 (br_f h2 h)
theorem xw_nv (post : Int32 → Prop) (k : Int32) (h : post (if k = 2 ∨ k = 21 ∨ k = 22 then 1 else 0)) : wpX_namesVariable post k := by
  by_cases h1 : k = 2
  · rw [if_pos (Or.inl h1)] at h
    exact br_t h1 h
  · refine br_f h1 ?_
    apply xw_iq
    by_cases h2 : k = 21 ∨ k = 22
    · rw [if_pos (Or.inr h2)] at h
      rw [if_pos h2]
      exact br_f (by decide) h
    · rw [if_neg (fun z => z.elim h1 h2)] at h
      rw [if_neg h2]
      exact br_t rfl h
theorem xw_ua (post : Int32 → Prop) (k : Int32) (h : post (if k = 1 ∨ k = 2 ∨ k = 21 ∨ k = 22 then 1 else 0)) : wpX_usesArg post k := by
  by_cases h1 : k = 1
  · rw [if_pos (Or.inl h1)] at h
    exact br_t h1 h
  · refine br_f h1 ?_
    apply xw_nv
    by_cases h2 : k = 2 ∨ k = 21 ∨ k = 22
    · rw [if_pos (Or.inr h2)] at h
      rw [if_pos h2]
      exact br_f (by decide) h
    · rw [if_neg (fun z => z.elim h1 h2)] at h
      rw [if_neg h2]
      exact br_t rfl h
