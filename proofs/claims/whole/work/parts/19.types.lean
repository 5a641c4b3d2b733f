/-! add: types, masks, steps -/
def rf_er (t : Int32) : Int32 := if t = -1 then -5 else t
theorem xw_t1 (post : Int32 → Prop) (k lt rt ra : Int32) (hk : k = 10 ∨ k = 11 ∨ k = 14 ∨ k = 15 ∨ k = 16 ∨ k = 17 ∨ k = 21 ∨ k = 22) (hr : rt = 0 ∨ rt = 1 ∨ rt = 2) (h : post (rf_er (rf_rt k lt rt ra))) : wpX_typeOverOne post k rt := by
  rcases hk with rfl | rfl | rfl | rfl | rfl | rfl | rfl | rfl <;> rcases hr with rfl | rfl | rfl <;> unfold wpX_typeOverOne wX_typeOverOne_67 wX_typeOverOne_44 wX_typeOverOne_56 <;> repeat (first | exact h | refine br_t (by decide) ?_ | refine br_f (by decide) ?_)
theorem xw_t2 (post : Int32 → Prop) (k lt rt ra : Int32) (hk : k = 5 ∨ k = 6 ∨ k = 7 ∨ k = 8 ∨ k = 9 ∨ k = 12 ∨ k = 13 ∨ k = 18 ∨ k = 19 ∨ k = 20) (hl : lt = 0 ∨ lt = 1 ∨ lt = 2) (hr : rt = 0 ∨ rt = 1 ∨ rt = 2) (h : post (rf_er (rf_rt k lt rt ra))) : wpX_typeOverTwo post k lt rt := by
  rcases hk with rfl | rfl | rfl | rfl | rfl | rfl | rfl | rfl | rfl | rfl <;> rcases hl with rfl | rfl | rfl <;> rcases hr with rfl | rfl | rfl <;> unfold wpX_typeOverTwo wX_typeOverTwo_10 wX_typeOverTwo_23 wX_typeOverTwo_24 wX_typeOverTwo_153 wX_typeOverTwo_76 wX_typeOverTwo_126 wX_typeOverTwo_92 <;> repeat (first | exact h | refine br_t (by decide) ?_ | refine br_f (by decide) ?_)
section
variable {xn xr xt xd xs xp xe : Int32} {ar rq ex tk ta sp sT sM hd pR pB vl md tt ns cu vs eT tm : Nat → Int32}
theorem xw_rt {D : Nat} (hD : D ≤ 32) (post : Int32 → Prop) (k a : Int32) (hk : rf_kd k) (hp : rf_pp k ≤ D) (ha : k = 1 → ∃ q : Nat, q < 4 ∧ a = nI q ∧ (ar q = 1 ∨ ar q = 2)) (hT : ∀ s, s < D → sT s = 0 ∨ sT s = 1 ∨ sT s = 2) (h : post (rf_er (rf_rt k (rf_lt k sT D) (rf_rr k sT D) (ar a.toNatClampNeg)))) : wpX_resultType post (xn, xr, xt, nI D, xs, xp, xe, ar, rq, ex, tk, ta, sp, sT, sM, hd, pR, pB, vl) k a (nI (rf_pp k)) := by
  rcases rf_kg hk with hg | hg | hg | hg
  · have hp0 := rf_pp0 hg
    rw [hp0]
    refine br_t nI_0 ?_
    rcases hg with rfl | rfl | rfl | rfl
    · obtain ⟨q, hq, rfl, hr⟩ := ha rfl
      have h : post (rf_er (ar (nI q).toNatClampNeg)) := h
      refine br_t rfl ⟨vp_in_nI (by omega) (by omega), ?_⟩
      have ec : ar (nI q).toNatClampNeg = ar q := by rw [nI_clamp (show q < 2 ^ 31 by omega)]
      rw [ec] at h ⊢
      rcases hr with hr | hr
      · rw [hr] at h
        exact br_t hr h
      · rw [hr] at h
        exact br_f (by rw [hr]; decide) h
    · exact br_f (by decide) (br_f (by decide) h)
    · exact br_f (by decide) (br_f (by decide) h)
    · exact br_f (by decide) (br_t rfl h)
  · have hp1 := (rf_pp1 hg).1
    have er : rf_rr k sT D = sT (D - 1) := by
      unfold rf_rr
      rw [if_neg (by omega)]
    have es : nI D - 1 = nI (D - 1) := pk_sub (b := 1) (by omega)
    have ec : (nI (D - 1)).toNatClampNeg = D - 1 := nI_clamp (by omega)
    rw [er] at h
    rw [hp1]
    refine br_f (by decide) ?_
    rw [es, ec]
    refine ⟨vp_in_nI (by omega) (by omega), nm_e (br_t rfl ?_)⟩
    refine xw_t1 _ k _ _ _ ?_ (hT _ (by omega)) h
    rcases hg with z | z | z | z | z | z <;> simp [z]
  · have hp2 := (rf_pp2 hg).1
    have er : rf_rr k sT D = sT (D - 1) := by
      unfold rf_rr
      rw [if_neg (by omega)]
    have el : rf_lt k sT D = sT (D - 2) := by
      unfold rf_lt
      rw [if_pos hp2]
    have es : nI D - 1 = nI (D - 1) := pk_sub (b := 1) (by omega)
    have es2 : nI D - 2 = nI (D - 2) := pk_sub (b := 2) (by omega)
    have ec : (nI (D - 1)).toNatClampNeg = D - 1 := nI_clamp (by omega)
    have ec2 : (nI (D - 2)).toNatClampNeg = D - 2 := nI_clamp (by omega)
    rw [er, el] at h
    rw [hp2]
    refine br_f (by decide) ?_
    rw [es, es2, ec, ec2]
    exact ⟨vp_in_nI (by omega) (by omega), nm_e (br_f (by decide) ⟨vp_in_nI (by omega) (by omega), nm_e (xw_t2 _ k _ _ _ hg (hT _ (by omega)) (hT _ (by omega)) h)⟩)⟩
  · have hp1 : rf_pp k = 1 := by rcases hg with rfl | rfl <;> decide +kernel
    have er : rf_rr k sT D = sT (D - 1) := by
      unfold rf_rr
      rw [if_neg (by omega)]
    have es : nI D - 1 = nI (D - 1) := pk_sub (b := 1) (by omega)
    have ec : (nI (D - 1)).toNatClampNeg = D - 1 := nI_clamp (by omega)
    rw [er] at h
    rw [hp1]
    refine br_f (by decide) ?_
    rw [es, ec]
    refine ⟨vp_in_nI (by omega) (by omega), nm_e (br_t rfl ?_)⟩
    refine xw_t1 _ k _ _ _ ?_ (hT _ (by omega)) h
    rcases hg with z | z <;> simp [z]
/-- the mask of the new entry -/
def rf_mk (k a : Int32) (M : Nat → Int32) (D : Nat) : Int32 :=
  if k = 2 then (1 : Int32) <<< (a &&& 31) else if k = 21 ∨ k = 22 then M (D - 1) &&& (((1 : Int32) <<< (a &&& 31)) ^^^ (-1))
  else if rf_pp k = 0 then 0 else if rf_pp k = 1 then M (D - 1) else M (D - 1) ||| M (D - 2)
theorem xw_mk {D : Nat} (hD : D ≤ 32) (post : Int32 → Prop) (k a : Int32) (hk : rf_kd k) (hp : rf_pp k ≤ D) (h : post (rf_mk k a sM D)) : wpX_resultMask post (xn, xr, xt, nI D, xs, xp, xe, ar, rq, ex, tk, ta, sp, sT, sM, hd, pR, pB, vl) k a (nI (rf_pp k)) := by
  unfold rf_mk at h
  have es2 : 2 ≤ D → nI D - 2 = nI (D - 2) := fun z => pk_sub (b := 2) z
  rcases rf_kg hk with hg | hg | hg | hg
  · have hp0 := rf_pp0 hg
    rw [hp0] at h ⊢
    refine br_t nI_0 ?_
    rcases hg with rfl | rfl | rfl | rfl
    · exact br_f (by decide) h
    · exact br_t rfl h
    · exact br_f (by decide) h
    · exact br_f (by decide) h
  · have hp1 := rf_pp1 hg
    have h2 : ¬ k = 2 := by rcases hg with rfl | rfl | rfl | rfl | rfl | rfl <;> decide
    have es : nI D - 1 = nI (D - 1) := pk_sub (b := 1) (by omega)
    rw [if_neg h2, if_neg (fun z => z.elim hp1.2.1 hp1.2.2), if_neg (by omega), if_pos hp1.1] at h
    rw [hp1.1]
    refine br_f (by decide) ?_
    rw [es, nI_clamp (show D - 1 < 2 ^ 31 by omega)]
    refine ⟨vp_in_nI (by omega) (by omega), nm_e (br_f (by decide) (xw_iq _ k ?_))⟩
    rw [if_neg (fun z => z.elim hp1.2.1 hp1.2.2)]
    exact br_t rfl h
  · have hp2 := rf_pp2 hg
    have h2 : ¬ k = 2 := by rcases hg with rfl | rfl | rfl | rfl | rfl | rfl | rfl | rfl | rfl | rfl <;> decide
    have es : nI D - 1 = nI (D - 1) := pk_sub (b := 1) (by omega)
    rw [if_neg h2, if_neg (fun z => z.elim hp2.2.1 hp2.2.2), if_neg (by omega), if_neg (by omega)] at h
    rw [hp2.1]
    refine br_f (by decide) ?_
    rw [es, es2 (by omega), nI_clamp (show D - 1 < 2 ^ 31 by omega), nI_clamp (show D - 2 < 2 ^ 31 by omega)]
    refine ⟨vp_in_nI (by omega) (by omega), nm_e (br_t rfl ⟨vp_in_nI (by omega) (by omega), nm_e (xw_iq _ k ?_)⟩)⟩
    rw [if_neg (fun z => z.elim hp2.2.1 hp2.2.2)]
    exact br_t rfl h
  · have hp1 : rf_pp k = 1 := by rcases hg with rfl | rfl <;> decide +kernel
    have h2 : ¬ k = 2 := by rcases hg with rfl | rfl <;> decide
    have es : nI D - 1 = nI (D - 1) := pk_sub (b := 1) (by omega)
    rw [if_neg h2, if_pos hg] at h
    rw [hp1]
    refine br_f (by decide) ?_
    rw [es, nI_clamp (show D - 1 < 2 ^ 31 by omega)]
    refine ⟨vp_in_nI (by omega) (by omega), nm_e (br_f (by decide) (xw_iq _ k ?_))⟩
    rw [if_pos hg]
    exact br_f (by decide) h
theorem xw_so {D : Nat} (hD : D ≤ 32) (post : Int32 → Prop) (k : Int32) (hp : rf_pp k ≤ D) (h : post (rf_sp k (rf_lt k sT D) (rf_rr k sT D))) : wpX_stepOf post (xn, xr, xt, nI D, xs, xp, xe, ar, rq, ex, tk, ta, sp, sT, sM, hd, pR, pB, vl) k := by
  by_cases h8 : k = 8
  · subst h8
    have hp2 : rf_pp 8 = 2 := by decide +kernel
    have er : rf_rr 8 sT D = sT (D - 1) := by
      unfold rf_rr
      rw [if_neg (by omega)]
    have el : rf_lt 8 sT D = sT (D - 2) := by
      unfold rf_lt
      rw [if_pos hp2]
    have es : nI D - 1 = nI (D - 1) := pk_sub (b := 1) (by omega)
    have es2 : nI D - 2 = nI (D - 2) := pk_sub (b := 2) (by omega)
    unfold rf_sp at h
    rw [er, el, if_pos rfl] at h
    refine br_t rfl ?_
    rw [es, es2, nI_clamp (show D - 1 < 2 ^ 31 by omega), nI_clamp (show D - 2 < 2 ^ 31 by omega)]
    refine ⟨vp_in_nI (by omega) (by omega), ?_⟩
    by_cases hl : sT (D - 2) = 1
    · rw [if_pos hl] at h
      exact br_t hl h
    · rw [if_neg hl] at h
      refine br_f hl ⟨vp_in_nI (by omega) (by omega), ?_⟩
      by_cases hr : sT (D - 1) = 1
      · rw [if_pos hr] at h
        exact br_t hr h
      · rw [if_neg hr] at h
        exact br_f hr h
  · rw [rf_sp0 h8] at h
    exact br_f h8 h
theorem yw_rt (post : Int32 → Prop) (k lt rt a : Int32) (hk : rf_kd k) (ha : k = 1 → ∃ q : Nat, q < 4 ∧ a = nI q) (hl : lt = 0 ∨ lt = 1 ∨ lt = 2) (hr : rt = 0 ∨ rt = 1 ∨ rt = 2) (h : post (rf_rt k lt rt (ar a.toNatClampNeg))) : wpY_resultType post (xn, xr, xt, xd, xs, ar, md, tk, ta, tt, sT, sM, ns, cu, vs, eT, tm) k lt rt a := by
  rcases rf_kg hk with hg | hg | hg | hg
  · rcases hg with rfl | rfl | rfl | rfl
    · obtain ⟨q, hq, rfl⟩ := ha rfl
      have e3 : nI q &&& 3 = nI q := by
        rw [pk_andN (by omega) 2 (by decide), Nat.mod_eq_of_lt (by omega)]
      refine br_t rfl ?_
      rw [e3]
      exact ⟨vp_in_nI (by omega) (by omega), h⟩
    · exact br_f (by decide) (br_t rfl h)
    · exact br_f (by decide) (br_f (by decide) (br_t rfl h))
    · exact br_f (by decide) (br_f (by decide) (br_f (by decide) (br_t rfl h)))
  · rcases hg with rfl | rfl | rfl | rfl | rfl | rfl <;> rcases hr with rfl | rfl | rfl <;> unfold wpY_resultType wY_resultType_60 wY_resultType_196 wY_resultType_208 wY_resultType_136 wY_resultType_159 wY_resultType_86 <;> repeat (first | exact h | refine br_t (by decide) ?_ | refine br_f (by decide) ?_)
  · rcases hg with rfl | rfl | rfl | rfl | rfl | rfl | rfl | rfl | rfl | rfl <;> rcases hl with rfl | rfl | rfl <;> rcases hr with rfl | rfl | rfl <;> unfold wpY_resultType wY_resultType_60 wY_resultType_196 wY_resultType_208 wY_resultType_136 wY_resultType_159 wY_resultType_86 <;> repeat (first | exact h | refine br_t (by decide) ?_ | refine br_f (by decide) ?_)
  · rcases hg with rfl | rfl <;> rcases hr with rfl | rfl | rfl <;> unfold wpY_resultType wY_resultType_60 wY_resultType_196 wY_resultType_208 wY_resultType_136 wY_resultType_159 wY_resultType_86 <;> repeat (first | exact h | refine br_t (by decide) ?_ | refine br_f (by decide) ?_)
theorem rf_rtc {k lt rt ra rb : Int32} (h : ¬ k = 1) : rf_rt k lt rt ra = rf_rt k lt rt rb := by
  unfold rf_rt
  rw [if_neg h, if_neg h]
end
