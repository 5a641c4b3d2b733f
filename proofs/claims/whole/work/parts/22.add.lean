/-! add -/
theorem rl_arg {R : Nat} (hR : R ≤ 4) (k a : Int32) : ((k = 1 → ∃ q : Nat, q < R ∧ a = nI q) ∧ (k = 2 ∨ k = 21 ∨ k = 22 → ∃ v : Nat, v < 3 ∧ a = nI v)) ∨ (k = 1 ∧ (a < 0 ∨ nI R ≤ a)) ∨ ((k = 2 ∨ k = 21 ∨ k = 22) ∧ ¬ k = 1 ∧ (a < 0 ∨ nI 3 ≤ a)) := by
  by_cases h1 : k = 1
  · have hn : ¬ (k = 2 ∨ k = 21 ∨ k = 22) := by
      rw [h1]
      decide
    rcases pk_ix a (n := R) (by omega) with h | h | h
    · exact Or.inr (Or.inl ⟨h1, Or.inl h⟩)
    · exact Or.inr (Or.inl ⟨h1, Or.inr h⟩)
    · exact Or.inl ⟨fun _ => h, fun z => absurd z hn⟩
  · by_cases h2 : k = 2 ∨ k = 21 ∨ k = 22
    · rcases pk_ix a (n := 3) (by omega) with h | h | h
      · exact Or.inr (Or.inr ⟨h2, h1, Or.inl h⟩)
      · exact Or.inr (Or.inr ⟨h2, h1, Or.inr h⟩)
      · exact Or.inl ⟨fun z => absurd z h1, fun _ => h⟩
    · exact Or.inl ⟨fun z => absurd z h1, fun z => absurd z h2⟩
def rl_us (k a : Int32) : Int32 := if k = 1 ∨ k = 2 ∨ k = 21 ∨ k = 22 then a else 0
def rl_z (k : Int32) : Int32 := if k = 2 ∨ k = 21 ∨ k = 22 then 1 else 0
section
variable {xn xr xt xd xs xp xe : Int32} {ar rq ex tk ta sp sT sM hd pR pB vl md tt ns cu vs eT tm : Nat → Int32}
theorem xw_aw0 {R : Nat} (hR : R ≤ 4) (post : Int32 → Prop) (k a : Int32) (h1 : k = 1 → ∃ q : Nat, q < R ∧ a = nI q) (h2 : k = 2 ∨ k = 21 ∨ k = 22 → ∃ v : Nat, v < 3 ∧ a = nI v) (hp : post 0) : wpX_isArgWrong post (xn, nI R, xt, xd, xs, xp, xe, ar, rq, ex, tk, ta, sp, sT, sM, hd, pR, pB, vl) k a := by
  by_cases hk : k = 1
  · obtain ⟨q, hq, rfl⟩ := h1 hk
    exact br_t hk (xw_irt _ hR hq (br_f (by decide) hp))
  · refine br_f hk (xw_nv _ k ?_)
    by_cases hv : k = 2 ∨ k = 21 ∨ k = 22
    · obtain ⟨v, hv3, rfl⟩ := h2 hv
      rw [if_pos hv]
      exact br_f (by decide) (br_f (nI_pos (by omega)) (br_t (nI_lt (b := 3) hv3 (by decide)) hp))
    · rw [if_neg hv]
      exact br_t rfl hp
theorem xw_aw1 {R : Nat} (post : Int32 → Prop) (k a : Int32) (h : (k = 1 ∧ (a < 0 ∨ nI R ≤ a)) ∨ ((k = 2 ∨ k = 21 ∨ k = 22) ∧ ¬ k = 1 ∧ (a < 0 ∨ nI 3 ≤ a))) (hp : post 1) : wpX_isArgWrong post (xn, nI R, xt, xd, xs, xp, xe, ar, rq, ex, tk, ta, sp, sT, sM, hd, pR, pB, vl) k a := by
  rcases h with ⟨hk, h⟩ | ⟨hv, hk, h⟩
  · exact br_t hk (xw_irn _ _ h (br_t rfl hp))
  · refine br_f hk (xw_nv _ k ?_)
    rw [if_pos hv]
    exact br_f (by decide) (br_c (fun _ => hp) (fun hn => br_f (Int32.not_lt.mpr (h.resolve_left hn)) hp))
theorem xw_111 {T D : Nat} (hT : T < 32) (hD : D ≤ 32) (post : Int32 → SX → Prop) (k t m z : Int32) (hpp : rf_pp k ≤ D) (hDT : D ≤ T) (hp : post (nI (D - rf_pp k + 1)) (xn, xr, nI (T + 1), nI (D - rf_pp k + 1), 0, xp, xe, ar, rq, ex, tk, upd ta T z, upd sp T (rf_sp k (rf_lt k sT D) (rf_rr k sT D)), upd sT (D - rf_pp k) t, upd sM (D - rf_pp k) m, hd, pR, pB, vl)) : wX_add_111 post k (nI (rf_pp k)) t m z (nI T) xn xr (nI T) (nI D) xs xp xe ar rq ex tk ta sp sT sM hd pR pB vl := by
  have vT : vp_in (nI T) 32 := vp_in_nI hT (by omega)
  have vD : vp_in (nI (D - rf_pp k)) 32 := vp_in_nI (by omega) (by omega)
  unfold wX_add_111
  rw [nI_clamp (show T < 2 ^ 31 by omega)]
  refine ⟨vT, nm_e (xw_so hD _ k hpp ⟨vT, nm_e (nm_r (nI_1 T) (nm_r (e' := nI (D - rf_pp k)) (pk_sub hpp) ?_))⟩)⟩
  rw [nI_clamp (show D - rf_pp k < 2 ^ 31 by omega)]
  exact ⟨vD, nm_e ⟨vD, nm_e (nm_r (nI_1 _) hp)⟩⟩
theorem yw_253 {T D : Nat} (hT : T < 32) (hD : D ≤ 32) (post : Int32 → SY → Prop) (k a t m : Int32) (hpp : rf_pp k ≤ D) (hDT : D ≤ T) (hp : post (nI (D - rf_pp k + 1)) (xn, xr, nI (T + 1), nI (D - rf_pp k + 1), 0, ar, md, upd tk T k, upd ta T (rl_us k a), upd tt T t, upd sT (D - rf_pp k) t, upd sM (D - rf_pp k) m, ns, cu, vs, eT, tm)) : wY_add_253 post k a (rl_z k) (nI (rf_pp k)) t m xn xr (nI T) (nI D) xs ar md tk ta tt sT sM ns cu vs eT tm := by
  have vT : vp_in (nI T) 32 := vp_in_nI hT (by omega)
  have vD : vp_in (nI (D - rf_pp k)) 32 := vp_in_nI (by omega) (by omega)
  have go : ∀ z : Int32, z = rl_us k a → wY_add_285 post (nI (rf_pp k)) t m z (nI T) xn xr (nI T) (nI D) xs ar md (upd tk T k) ta tt sT sM ns cu vs eT tm := by
    intro z hz
    unfold wY_add_285
    rw [nI_clamp (show T < 2 ^ 31 by omega), hz]
    refine ⟨vT, nm_e ⟨vT, nm_e (nm_r (nI_1 T) (nm_r (e' := nI (D - rf_pp k)) (pk_sub hpp) ?_))⟩⟩
    rw [nI_clamp (show D - rf_pp k < 2 ^ 31 by omega)]
    exact ⟨vD, nm_e ⟨vD, nm_e (nm_r (nI_1 _) hp)⟩⟩
  unfold wY_add_253 wY_add_280
  rw [nI_clamp (show T < 2 ^ 31 by omega)]
  refine ⟨vT, nm_e ?_⟩
  unfold rl_us at go
  unfold rl_z
  by_cases h1 : k = 1
  · rw [if_pos (Or.inl h1)] at go
    exact br_t h1 (go a rfl)
  · refine br_f h1 ?_
    by_cases h2 : k = 2 ∨ k = 21 ∨ k = 22
    · rw [if_pos (Or.inr h2)] at go
      rw [if_pos h2]
      exact br_f (by decide) (go a rfl)
    · rw [if_neg (fun z => z.elim h1 h2)] at go
      rw [if_neg h2]
      exact br_t rfl (go 0 rfl)
theorem yw_192 {T D : Nat} (post : Int32 → SY → Prop) (k a lm rm lt rt : Int32) (hk : rf_kd k) (ha : k = 1 → ∃ q : Nat, q < 4 ∧ a = nI q) (ht : ∀ lt rt : Int32, (lt = 0 ∨ lt = 1 ∨ lt = 2) → (rt = 0 ∨ rt = 1 ∨ rt = 2) → ¬ rf_rt k lt rt (ar a.toNatClampNeg) = -1 → 0 ≤ rf_rt k lt rt (ar a.toNatClampNeg)) (hl : lt = 0 ∨ lt = 1 ∨ lt = 2) (hr : rt = 0 ∨ rt = 1 ∨ rt = 2)
    (hm : ∀ m : Int32, (k = 2 → m = (1 : Int32) <<< (a &&& 31)) → (k = 21 ∨ k = 22 → m = rm &&& (((1 : Int32) <<< (a &&& 31)) ^^^ (-1))) → (¬ k = 2 → ¬ (k = 21 ∨ k = 22) → m = lm ||| rm) → m = rf_mk k a sM D)
    (hb : rf_rt k lt rt (ar a.toNatClampNeg) = -1 → post (-5) (xn, xr, nI T, nI D, xs, ar, md, tk, ta, tt, sT, sM, ns, cu, vs, eT, tm)) (hg : ¬ rf_rt k lt rt (ar a.toNatClampNeg) = -1 → wY_add_253 post k a (rl_z k) (nI (rf_pp k)) (rf_rt k lt rt (ar a.toNatClampNeg)) (rf_mk k a sM D) xn xr (nI T) (nI D) xs ar md tk ta tt sT sM ns cu vs eT tm) : wY_add_192 post k a (rl_z k) (nI (rf_pp k)) rt rm lt lm xn xr (nI T) (nI D) xs ar md tk ta tt sT sM ns cu vs eT tm := by
  unfold wY_add_192
  refine yw_rt _ k lt rt a hk ha hl hr ?_
  by_cases hn : rf_rt k lt rt (ar a.toNatClampNeg) = -1
  · refine br_f ?_ (hb hn)
    rw [hn]
    decide
  · have hg := hg hn
    refine br_t (ht lt rt hl hr hn) (nm_e ?_)
    by_cases h2 : k = 2
    · have e := hm ((1 : Int32) <<< (a &&& 31)) (fun _ => rfl) (fun z => absurd z (by rw [h2]; decide)) (fun z => absurd h2 z)
      rw [← e] at hg
      exact br_t h2 (nm_e (br_f (by rw [h2]; decide) (br_f (by rw [h2]; decide) hg)))
    · refine br_f h2 ?_
      by_cases h21 : k = 21
      · have e := hm (rm &&& (((1 : Int32) <<< (a &&& 31)) ^^^ (-1))) (fun z => absurd z h2) (fun _ => rfl) (fun _ z => absurd (Or.inl h21) z)
        rw [← e] at hg
        exact br_t h21 (nm_e hg)
      · refine br_f h21 ?_
        by_cases h22 : k = 22
        · have e := hm (rm &&& (((1 : Int32) <<< (a &&& 31)) ^^^ (-1))) (fun z => absurd z h2) (fun _ => rfl) (fun _ z => absurd (Or.inr h22) z)
          rw [← e] at hg
          exact br_t h22 (nm_e hg)
        · have e := hm (lm ||| rm) (fun z => absurd z h2) (fun z => absurd z (fun w => w.elim h21 h22)) (fun _ _ => rfl)
          rw [← e] at hg
          exact br_f h22 hg
theorem yw_83 {T D : Nat} (hD : D ≤ 32) (post : Int32 → SY → Prop) (k a : Int32) (hk : rf_kd k) (hpp : rf_pp k ≤ D) (ha : k = 1 → ∃ q : Nat, q < 4 ∧ a = nI q) (ht : ∀ lt rt : Int32, (lt = 0 ∨ lt = 1 ∨ lt = 2) → (rt = 0 ∨ rt = 1 ∨ rt = 2) → ¬ rf_rt k lt rt (ar a.toNatClampNeg) = -1 → 0 ≤ rf_rt k lt rt (ar a.toNatClampNeg)) (hT : ∀ s, s < D → sT s = 0 ∨ sT s = 1 ∨ sT s = 2)
    (hb : rf_rt k (rf_lt k sT D) (rf_rr k sT D) (ar a.toNatClampNeg) = -1 → post (-5) (xn, xr, nI T, nI D, xs, ar, md, tk, ta, tt, sT, sM, ns, cu, vs, eT, tm)) (hg : ¬ rf_rt k (rf_lt k sT D) (rf_rr k sT D) (ar a.toNatClampNeg) = -1 → wY_add_253 post k a (rl_z k) (nI (rf_pp k)) (rf_rt k (rf_lt k sT D) (rf_rr k sT D) (ar a.toNatClampNeg)) (rf_mk k a sM D) xn xr (nI T) (nI D) xs ar md tk ta tt sT sM ns cu vs eT tm) : wY_add_83 post k a (rl_z k) xn xr (nI T) (nI D) xs ar md tk ta tt sT sM ns cu vs eT tm := by
  unfold wY_add_83
  refine yw_pp _ k hk (br_t (nI_le hpp (by omega)) ?_)
  have p2 := rf_ppk hk
  have hc : rf_pp k = 0 ∨ rf_pp k = 1 ∨ rf_pp k = 2 := by omega
  have key := fun lm rm lt rt => yw_192 (xn := xn) (xr := xr) (xs := xs) (T := T) (D := D) (ar := ar) (md := md) (tk := tk) (ta := ta) (tt := tt) (sT := sT) (sM := sM) (ns := ns) (cu := cu) (vs := vs) (eT := eT) (tm := tm) post k a lm rm lt rt hk ha ht
  unfold wY_add_123 wY_add_146 wY_add_169
  rcases hc with hp | hp | hp
  · have el : rf_lt k sT D = 0 := by
      unfold rf_lt
      rw [if_neg (by omega)]
    have er : rf_rr k sT D = 0 := by
      unfold rf_rr
      rw [if_pos hp]
    rw [el, er] at hb hg
    rw [hp] at key hg ⊢
    refine br_t (by decide) (br_t (by decide) (br_f (by decide) (br_f (by decide) ?_)))
    refine key 0 0 0 0 (Or.inl rfl) (Or.inl rfl) (fun m m1 m2 m3 => ?_) hb hg
    unfold rf_mk
    by_cases h2 : k = 2
    · rw [if_pos h2]
      exact m1 h2
    · have hq : ¬ (k = 21 ∨ k = 22) := by
        intro z
        rcases z with rfl | rfl <;> exact absurd hp (by decide +kernel)
      rw [if_neg h2, if_neg hq, if_pos hp]
      exact m3 h2 hq
  · have el : rf_lt k sT D = 0 := by
      unfold rf_lt
      rw [if_neg (by omega)]
    have er : rf_rr k sT D = sT (D - 1) := by
      unfold rf_rr
      rw [if_neg (by omega)]
    have es : nI D - 1 = nI (D - 1) := pk_sub (b := 1) (by omega)
    have vD : vp_in (nI (D - 1)) 32 := vp_in_nI (by omega) (by omega)
    rw [el, er] at hb hg
    rw [hp] at key hg ⊢
    refine br_f (by decide) ?_
    rw [es, nI_clamp (show D - 1 < 2 ^ 31 by omega)]
    refine ⟨vD, br_f (by decide) ⟨vD, br_f (by decide) (br_f (by decide) ?_)⟩⟩
    refine key 0 (sM (D - 1)) 0 (sT (D - 1)) (Or.inl rfl) (hT _ (by omega)) (fun m m1 m2 m3 => ?_) hb hg
    unfold rf_mk
    have h2 : ¬ k = 2 := by
      intro z
      rw [z] at hp
      exact absurd hp (by decide +kernel)
    rw [if_neg h2]
    by_cases hq : k = 21 ∨ k = 22
    · rw [if_pos hq]
      exact m2 hq
    · rw [if_neg hq, if_neg (by omega), if_pos hp, m3 h2 hq, rf_0or]
  · have el : rf_lt k sT D = sT (D - 2) := by
      unfold rf_lt
      rw [if_pos hp]
    have er : rf_rr k sT D = sT (D - 1) := by
      unfold rf_rr
      rw [if_neg (by omega)]
    have es : nI D - 1 = nI (D - 1) := pk_sub (b := 1) (by omega)
    have es2 : nI D - 2 = nI (D - 2) := pk_sub (b := 2) (by omega)
    have vD : vp_in (nI (D - 1)) 32 := vp_in_nI (by omega) (by omega)
    have vD2 : vp_in (nI (D - 2)) 32 := vp_in_nI (by omega) (by omega)
    rw [el, er] at hb hg
    rw [hp] at key hg ⊢
    refine br_f (by decide) ?_
    rw [es, es2, nI_clamp (show D - 1 < 2 ^ 31 by omega), nI_clamp (show D - 2 < 2 ^ 31 by omega)]
    refine ⟨vD, br_f (by decide) ⟨vD, br_t rfl ⟨vD2, br_t rfl ⟨vD2, ?_⟩⟩⟩⟩
    refine key (sM (D - 2)) (sM (D - 1)) (sT (D - 2)) (sT (D - 1)) (hT _ (by omega)) (hT _ (by omega)) (fun m m1 m2 m3 => ?_) hb hg
    unfold rf_mk
    have h2 : ¬ k = 2 := by
      intro z
      rw [z] at hp
      exact absurd hp (by decide +kernel)
    have hq : ¬ (k = 21 ∨ k = 22) := by
      intro z
      rcases z with rfl | rfl <;> exact absurd hp (by decide +kernel)
    rw [if_neg h2, if_neg hq, if_neg (by omega), if_neg (by omega), m3 h2 hq]
    exact b_ext (fun i _ => by rw [b_or, b_or, Bool.or_comm])
theorem yw_ad0 {R T : Nat} (post : Int32 → SY → Prop) (k a : Int32) (hR : R ≤ 4) (t2 : ¬ nI T = 32) (k1 : ¬ k < 1) (k2 : k ≤ 22) (h1 : k = 1 → ∃ q : Nat, q < R ∧ a = nI q) (h2 : k = 2 ∨ k = 21 ∨ k = 22 → ∃ v : Nat, v < 3 ∧ a = nI v) (hp : wY_add_83 post k a (rl_z k) xn (nI R) (nI T) xd xs ar md tk ta tt sT sM ns cu vs eT tm) : wpY_add post (xn, nI R, nI T, xd, xs, ar, md, tk, ta, tt, sT, sM, ns, cu, vs, eT, tm) k a := by
  have go : wY_add_45 post k a xn (nI R) (nI T) xd xs ar md tk ta tt sT sM ns cu vs eT tm := by
    unfold wY_add_45 wY_add_62 wY_add_67
    unfold rl_z at hp
    by_cases hv : k = 2 ∨ k = 21 ∨ k = 22
    · rw [if_pos hv] at hp
      obtain ⟨v, hv3, rfl⟩ := h2 hv
      have w := br_f (c := (1 : Int32) = 0) (A := wY_add_83 post k (nI v) 1 xn (nI R) (nI T) xd xs ar md tk ta tt sT sM ns cu vs eT tm) (by decide) (br_f (A := post (-1) (xn, nI R, nI T, xd, xs, ar, md, tk, ta, tt, sT, sM, ns, cu, vs, eT, tm)) (nI_pos (n := v) (by omega)) (br_t (B := post (-1) (xn, nI R, nI T, xd, xs, ar, md, tk, ta, tt, sT, sM, ns, cu, vs, eT, tm)) (nI_lt (b := 3) hv3 (by decide)) hp))
      by_cases e2 : k = 2
      · exact br_t e2 w
      · refine br_f e2 ?_
        by_cases e21 : k = 21
        · exact br_t e21 w
        · refine br_f e21 ?_
          by_cases e22 : k = 22
          · exact br_t e22 w
          · exact absurd hv (fun z => z.elim e2 (fun z => z.elim e21 e22))
    · rw [if_neg hv] at hp
      exact br_f (fun z => hv (Or.inl z)) (br_f (fun z => hv (Or.inr (Or.inl z))) (br_f (fun z => hv (Or.inr (Or.inr z))) (br_t rfl hp)))
  refine br_f t2 (br_f k1 (br_t k2 ?_))
  by_cases e1 : k = 1
  · obtain ⟨q, hq, rfl⟩ := h1 e1
    exact br_t e1 (br_f (nI_pos (by omega)) (br_t (nI_lt hq (by omega)) go))
  · exact br_f e1 go
theorem yw_ad1 {R T : Nat} (post : Int32 → SY → Prop) (k a : Int32) (t2 : ¬ nI T = 32) (k1 : ¬ k < 1) (k2 : k ≤ 22) (h : (k = 1 ∧ (a < 0 ∨ nI R ≤ a)) ∨ ((k = 2 ∨ k = 21 ∨ k = 22) ∧ ¬ k = 1 ∧ (a < 0 ∨ nI 3 ≤ a))) (hp : post (-1) (xn, nI R, nI T, xd, xs, ar, md, tk, ta, tt, sT, sM, ns, cu, vs, eT, tm)) : wpY_add post (xn, nI R, nI T, xd, xs, ar, md, tk, ta, tt, sT, sM, ns, cu, vs, eT, tm) k a := by
  refine br_f t2 (br_f k1 (br_t k2 ?_))
  rcases h with ⟨hk, h⟩ | ⟨hv, hk, h⟩
  · exact br_t hk (br_c (fun _ => hp) (fun hn => br_f (Int32.not_lt.mpr (h.resolve_left hn)) hp))
  · refine br_f hk ?_
    unfold wY_add_45 wY_add_62 wY_add_67
    have w := br_f (c := (1 : Int32) = 0) (A := wY_add_83 post k a 1 xn (nI R) (nI T) xd xs ar md tk ta tt sT sM ns cu vs eT tm) (by decide) (br_c (c := a < 0) (fun _ => hp) (fun hn => br_f (c := a < 3) (A := wY_add_83 post k a 1 xn (nI R) (nI T) xd xs ar md tk ta tt sT sM ns cu vs eT tm) (Int32.not_lt.mpr (h.resolve_left hn)) hp))
    by_cases e2 : k = 2
    · exact br_t e2 w
    · refine br_f e2 ?_
      by_cases e21 : k = 21
      · exact br_t e21 w
      · refine br_f e21 ?_
        by_cases e22 : k = 22
        · exact br_t e22 w
        · exact absurd hv (fun z => z.elim e2 (fun z => z.elim e21 e22))
end
theorem rl_kd {k : Int32} (k1 : ¬ k < 1) (k2 : k ≤ 22) : rf_kd k := by
  have h1 : 1 ≤ k := Int32.not_lt.mp k1
  obtain ⟨j, hj, rfl⟩ := nI_of2 (x := k) (M := 22) (n := 22) (by decide) (Int32.not_lt.mpr (Int32.le_trans (by decide) h1)) k2
  exact ⟨j, (nI_leI (a := 1) (b := j) (by omega) (by omega)).mp h1, hj, rfl⟩
theorem i_vc_add {k : Nat} {u : SX} {v : SY} (I : i_Rel k u v) (hk : k + 5 ≤ 2562) (v1 : Int32) (v2 : Int32) : wpX_add (fun r u' => wpY_add (fun r' v' => r' = r ∧ i_Rel (k + 5) u' v') v v1 v2) u v1 v2 := by
  have I' : i_Rel (k + 5) u v := I
  obtain ⟨N, R, T, xs, xp, xe, ar, rq, ex, tk, ta, sp, sT, sM, hd, pR, pB, vl, md, tt, ns, cu, vs, eT, tm, rfl, rfl, I⟩ := I
  obtain ⟨h1, h2, h3, h4, h5, h6, h7, h8, h9⟩ := I
  have hDT := rf_hgi tk T
  by_cases hT : T = 32
  · subst hT
    exact br_f (by decide) (br_t rfl ⟨rfl, I'⟩)
  have t1 : nI T < 32 := nI_lt (b := 32) (by omega) (by decide)
  have t2 : ¬ nI T = 32 := fun z => hT ((nI_eq (b := 32) (by omega) (by decide)).mp z)
  refine br_t t1 ?_
  by_cases k1 : v1 < 1
  · exact br_t k1 (br_f t2 (br_t k1 ⟨rfl, I'⟩))
  refine br_f k1 ?_
  by_cases k2 : v1 ≤ 22
  case neg => exact br_f k2 (br_f t2 (br_f k1 (br_f k2 ⟨rfl, I'⟩)))
  have kd := rl_kd k1 k2
  refine br_t k2 ?_
  rcases rl_arg h4 v1 v2 with ⟨a1, a2⟩ | hbad
  case inr => exact xw_aw1 _ v1 v2 hbad (br_f (by decide) (yw_ad1 _ v1 v2 t2 k1 k2 hbad ⟨rfl, I'⟩))
  refine xw_aw0 h4 _ v1 v2 a1 a2 (br_t rfl (xw_oc _ v1 kd ?_))
  have hsT : ∀ s, s < rf_hg tk T → sT s = 0 ∨ sT s = 1 ∨ sT s = 2 := fun s hs => (h8 s hs).2
  by_cases hpp : rf_pp v1 ≤ rf_hg tk T
  case neg =>
    refine br_f (nI_ge (by omega) (by have := rf_ppk kd; omega)) (yw_ad0 _ v1 v2 h4 t2 k1 k2 a1 a2 ?_)
    unfold wY_add_83
    exact yw_pp _ v1 kd (br_f (nI_ge (by omega) (by have := rf_ppk kd; omega)) ⟨rfl, I'⟩)
  have har : v1 = 1 → ∃ q : Nat, q < 4 ∧ v2 = nI q ∧ (ar q = 1 ∨ ar q = 2) := by
    intro z
    obtain ⟨q, hq, e⟩ := a1 z
    exact ⟨q, by omega, e, (h6 q (by omega)).1⟩
  have har' : v1 = 1 → ∃ q : Nat, q < 4 ∧ v2 = nI q := by
    intro z
    obtain ⟨q, hq, e, _⟩ := har z
    exact ⟨q, hq, e⟩
  have hrt3 : ∀ lt rt : Int32, (lt = 0 ∨ lt = 1 ∨ lt = 2) → (rt = 0 ∨ rt = 1 ∨ rt = 2) → ¬ rf_rt v1 lt rt (ar v2.toNatClampNeg) = -1 → rf_rt v1 lt rt (ar v2.toNatClampNeg) = 0 ∨ rf_rt v1 lt rt (ar v2.toNatClampNeg) = 1 ∨ rf_rt v1 lt rt (ar v2.toNatClampNeg) = 2 := by
    intro lt rt hl hr hn
    by_cases e1 : v1 = 1
    · obtain ⟨q, hq, e, hqr⟩ := har e1
      have ec : ar v2.toNatClampNeg = ar q := by rw [e, nI_clamp (show q < 2 ^ 31 by omega)]
      rw [ec] at hn ⊢
      exact rf_rt3 hl hr hqr hn
    · rw [rf_rtc (rb := 1) e1] at hn ⊢
      exact rf_rt3 hl hr (Or.inl rfl) hn
  have hrt0 : ∀ lt rt : Int32, (lt = 0 ∨ lt = 1 ∨ lt = 2) → (rt = 0 ∨ rt = 1 ∨ rt = 2) → ¬ rf_rt v1 lt rt (ar v2.toNatClampNeg) = -1 → 0 ≤ rf_rt v1 lt rt (ar v2.toNatClampNeg) := by
    intro lt rt hl hr hn
    rcases hrt3 lt rt hl hr hn with e | e | e <;> rw [e] <;> decide
  have hlt : rf_lt v1 sT (rf_hg tk T) = 0 ∨ rf_lt v1 sT (rf_hg tk T) = 1 ∨ rf_lt v1 sT (rf_hg tk T) = 2 := by
    unfold rf_lt
    by_cases e : rf_pp v1 = 2
    · rw [if_pos e]
      exact hsT _ (by omega)
    · rw [if_neg e]
      exact Or.inl rfl
  have hrr : rf_rr v1 sT (rf_hg tk T) = 0 ∨ rf_rr v1 sT (rf_hg tk T) = 1 ∨ rf_rr v1 sT (rf_hg tk T) = 2 := by
    unfold rf_rr
    by_cases e : rf_pp v1 = 0
    · rw [if_pos e]
      exact Or.inl rfl
    · rw [if_neg e]
      exact hsT _ (by omega)
  refine br_t (nI_le hpp (by omega)) (xw_rt (by omega) _ v1 v2 kd hpp har hsT ?_)
  by_cases hn : rf_rt v1 (rf_lt v1 sT (rf_hg tk T)) (rf_rr v1 sT (rf_hg tk T)) (ar v2.toNatClampNeg) = -1
  · have e5 : rf_er (rf_rt v1 (rf_lt v1 sT (rf_hg tk T)) (rf_rr v1 sT (rf_hg tk T)) (ar v2.toNatClampNeg)) = -5 := if_pos hn
    rw [e5]
    exact br_t rfl (yw_ad0 _ v1 v2 h4 t2 k1 k2 a1 a2 (yw_83 (by omega) _ v1 v2 kd hpp har' hrt0 hsT (fun _ => ⟨rfl, I'⟩) (fun z => absurd hn z)))
  · have e5 : rf_er (rf_rt v1 (rf_lt v1 sT (rf_hg tk T)) (rf_rr v1 sT (rf_hg tk T)) (ar v2.toNatClampNeg)) = rf_rt v1 (rf_lt v1 sT (rf_hg tk T)) (rf_rr v1 sT (rf_hg tk T)) (ar v2.toNatClampNeg) := if_neg hn
    have h3' := hrt3 _ _ hlt hrr hn
    rw [e5]
    have vT : vp_in (nI T) 32 := vp_in_nI (by omega) (by omega)
    have wfn : rf_wf R ar sT (rf_hg tk T) v1 (rl_us v1 v2) (rf_rt v1 (rf_lt v1 sT (rf_hg tk T)) (rf_rr v1 sT (rf_hg tk T)) (ar v2.toNatClampNeg)) (rf_sp v1 (rf_lt v1 sT (rf_hg tk T)) (rf_rr v1 sT (rf_hg tk T))) := by
      refine ⟨kd, hpp, ?_, hn, ?_, ?_, rfl⟩
      · by_cases e1 : v1 = 1
        · have e : rl_us v1 v2 = v2 := if_pos (Or.inl e1)
          rw [e]
        · exact rf_rtc e1
      · intro e1
        have e : rl_us v1 v2 = v2 := if_pos (Or.inl e1)
        rw [e]
        exact a1 e1
      · intro e1
        have e : rl_us v1 v2 = v2 := if_pos (Or.inr e1)
        rw [e]
        exact a2 e1
    have relN : ∀ (xp' xe' : Int32), i_Rel (k + 5) (nI N, nI R, nI (T + 1), nI (rf_hg tk T - rf_pp v1 + 1), 0, xp, xe, ar, rq, ex, upd tk T v1, upd ta T (rl_us v1 v2), upd sp T (rf_sp v1 (rf_lt v1 sT (rf_hg tk T)) (rf_rr v1 sT (rf_hg tk T))), upd sT (rf_hg tk T - rf_pp v1) (rf_rt v1 (rf_lt v1 sT (rf_hg tk T)) (rf_rr v1 sT (rf_hg tk T)) (ar v2.toNatClampNeg)), upd sM (rf_hg tk T - rf_pp v1) (rf_mk v1 v2 sM (rf_hg tk T)), hd, pR, pB, vl) (nI N, nI R, nI (T + 1), nI (rf_hg tk T - rf_pp v1 + 1), 0, ar, md, upd tk T v1, upd ta T (rl_us v1 v2), upd tt T (rf_rt v1 (rf_lt v1 sT (rf_hg tk T)) (rf_rr v1 sT (rf_hg tk T)) (ar v2.toNatClampNeg)), upd sT (rf_hg tk T - rf_pp v1) (rf_rt v1 (rf_lt v1 sT (rf_hg tk T)) (rf_rr v1 sT (rf_hg tk T)) (ar v2.toNatClampNeg)), upd sM (rf_hg tk T - rf_pp v1) (rf_mk v1 v2 sM (rf_hg tk T)), ns, cu, vs, eT, tm) := by
      intro xp' xe'
      rw [← rf_hgs (tk := tk) (T := T) (k := v1)]
      refine rl_mk ⟨h1, h2, h3, h4, by omega, h6, rf_WFs h7 (rf_wfc (fun s hs => (h8 s hs).1.symm) wfn), ?_, fun z => absurd z (by decide)⟩
      intro s hs
      rw [rf_hgs] at hs
      rw [rf_tys]
      by_cases e : s = rf_hg tk T - rf_pp v1
      · rw [e, pk_us, pk_us]
        exact ⟨rfl, h3'⟩
      · rw [pk_un e, pk_un e]
        exact h8 s (by omega)
    have goY : ∀ (r : Int32) (u' : SX), r = nI (rf_hg tk T - rf_pp v1 + 1) → u' = (nI N, nI R, nI (T + 1), nI (rf_hg tk T - rf_pp v1 + 1), 0, xp, xe, ar, rq, ex, upd tk T v1, upd ta T (rl_us v1 v2), upd sp T (rf_sp v1 (rf_lt v1 sT (rf_hg tk T)) (rf_rr v1 sT (rf_hg tk T))), upd sT (rf_hg tk T - rf_pp v1) (rf_rt v1 (rf_lt v1 sT (rf_hg tk T)) (rf_rr v1 sT (rf_hg tk T)) (ar v2.toNatClampNeg)), upd sM (rf_hg tk T - rf_pp v1) (rf_mk v1 v2 sM (rf_hg tk T)), hd, pR, pB, vl) → wpY_add (fun r' v' => r' = r ∧ i_Rel (k + 5) u' v') (nI N, nI R, nI T, nI (rf_hg tk T), xs, ar, md, tk, ta, tt, sT, sM, ns, cu, vs, eT, tm) v1 v2 := by
      intro r u' er eu
      subst er eu
      exact yw_ad0 _ v1 v2 h4 t2 k1 k2 a1 a2 (yw_83 (by omega) _ v1 v2 kd hpp har' hrt0 hsT (fun z => absurd z hn) (fun _ => yw_253 (by omega) (by omega) _ v1 v2 _ _ hpp hDT ⟨rfl, relN xp xe⟩))
    refine br_f (fun z => ?_) (xw_mk (by omega) _ v1 v2 kd hpp ⟨vT, ?_⟩)
    · rcases h3' with e | e | e <;> rw [e] at z <;> exact absurd z (by decide)
    · rw [nI_clamp (show T < 2 ^ 31 by omega)]
      refine nm_e (xw_ua _ v1 ?_)
      by_cases hu : v1 = 1 ∨ v1 = 2 ∨ v1 = 21 ∨ v1 = 22
      · have e : rl_us v1 v2 = v2 := if_pos hu
        rw [if_pos hu]
        exact br_f (by decide) (xw_111 (by omega) (by omega) _ v1 _ _ _ hpp hDT (goY _ _ rfl (by rw [e])))
      · have e : rl_us v1 v2 = 0 := if_neg hu
        rw [if_neg hu]
        exact br_t rfl (xw_111 (by omega) (by omega) _ v1 _ _ _ hpp hDT (goY _ _ rfl (by rw [e])))
