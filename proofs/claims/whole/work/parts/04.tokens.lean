/-! tokens: pops, result types, values; X's values = Y's on typed operands -/
def rf_pp (k : Int32) : Nat := if k ≤ 4 then 0 else if k = 10 ∨ k = 11 ∨ (14 ≤ k ∧ k ≤ 17) ∨ 21 ≤ k then 1 else 2
def rf_rt (k lt rt ra : Int32) : Int32 :=
  if k = 1 then ra else if k = 2 ∨ k = 3 then 1 else if k = 4 then 2
  else if 5 ≤ k ∧ k ≤ 7 then (if ¬ lt = 0 ∧ lt = rt then lt else -1)
  else if k = 8 then (if lt = 0 ∨ rt = 0 ∨ (lt = 1 ∧ rt = 1) then -1 else if lt = 2 ∧ rt = 2 then 2 else 1)
  else if k = 9 then (if lt = 1 ∧ rt = 1 then 2 else -1)
  else if k = 10 ∨ k = 11 then (if rt = 2 then 2 else -1)
  else if k = 12 ∨ k = 13 then (if ¬ lt = 0 ∧ lt = rt then 0 else -1)
  else if 14 ≤ k ∧ k ≤ 16 then (if ¬ rt = 0 then 0 else -1)
  else if k = 17 ∨ 21 ≤ k then (if rt = 0 then 0 else -1)
  else (if lt = 0 ∧ rt = 0 then 0 else -1)
def rf_sp (k lt rt : Int32) : Int32 := if k = 8 then (if lt = 1 then 23 else if rt = 1 then 24 else 25) else k
def rf_x1 (k x : Int32) : Int32 :=
  if k = 10 then rf_tr x else if k = 11 then rf_wc x 4 else if k = 14 then (if x = 0 then 0 else 1)
  else if k = 16 then (if ¬ x = 0 ∧ x &&& (x - 1) = 0 then 1 else 0) else (if x = 0 then 1 else 0)
def rf_q1 (N : Nat) (k x : Int32) : Int32 :=
  if k = 10 then rf_y3 N x else if k = 11 then rf_yk N x N else if k = 14 then (if x = 0 then 0 else 1)
  else if k = 16 then (if ¬ x = 0 ∧ x &&& (x - 1) = 0 then 1 else 0) else (if x = 0 then 1 else 0)
def rf_x2 (s l x : Int32) : Int32 :=
  if s = 5 ∨ s = 19 then l ||| x else if s = 6 ∨ s = 18 then l &&& x else if s = 7 then l &&& (x ^^^ (-1))
  else if s = 23 then rf_im l x else if s = 24 then rf_pre l x else if s = 25 then rf_co l x
  else if s = 9 then rf_pr l x else if s = 13 then (if l = x then 1 else 0) else (if l &&& (x ^^^ (-1)) = 0 then 1 else 0)
def rf_q2 (N : Nat) (k lt rt l x : Int32) : Int32 :=
  if k = 5 ∨ k = 19 then l ||| x else if k = 6 ∨ k = 18 then l &&& x else if k = 7 then l &&& (x ^^^ (-1))
  else if k = 8 then (if lt = 1 then rf_y0 N l x else if rt = 1 then rf_y1 N l x else rf_yc N l x)
  else if k = 9 then rf_y2 N l x else if k = 12 then (if l &&& (x ^^^ (-1)) = 0 then 1 else 0)
  else if k = 13 then (if l = x then 1 else 0) else (if l = 0 ∨ ¬ x = 0 then 1 else 0)
def rf_ok (N : Nat) (ty x : Int32) : Prop := (ty = 0 ∧ (x = 0 ∨ x = 1)) ∨ (ty = 1 ∧ rf_vU N x) ∨ (ty = 2 ∧ rf_vB N x)
theorem rf_ok0 {N : Nat} {ty x : Int32} (h : rf_ok N ty x) (e : ty = 0) : x = 0 ∨ x = 1 := by
  subst e
  rcases h with h | h | h
  · exact h.2
  · exact absurd h.1 (by decide)
  · exact absurd h.1 (by decide)
theorem rf_ok1 {N : Nat} {ty x : Int32} (h : rf_ok N ty x) (e : ty = 1) : rf_vU N x := by
  subst e
  rcases h with h | h | h
  · exact absurd h.1 (by decide)
  · exact h.2
  · exact absurd h.1 (by decide)
theorem rf_ok2 {N : Nat} {ty x : Int32} (h : rf_ok N ty x) (e : ty = 2) : rf_vB N x := by
  subst e
  rcases h with h | h | h
  · exact absurd h.1 (by decide)
  · exact absurd h.1 (by decide)
  · exact h.2
theorem rf_okt {N : Nat} {ty x : Int32} (h : rf_ok N ty x) : ty = 0 ∨ ty = 1 ∨ ty = 2 := by
  rcases h with h | h | h
  · exact Or.inl h.1
  · exact Or.inr (Or.inl h.1)
  · exact Or.inr (Or.inr h.1)
theorem rf_okI {N : Nat} {c : Prop} [Decidable c] : rf_ok N 0 (if c then 1 else 0) := by
  by_cases h : c
  · rw [if_pos h]
    exact Or.inl ⟨rfl, Or.inr rfl⟩
  · rw [if_neg h]
    exact Or.inl ⟨rfl, Or.inl rfl⟩
theorem rf_e1 {N : Nat} (hN : N ≤ 4) (k lt rt ra x tt : Int32) (hk : k = 10 ∨ k = 11 ∨ k = 14 ∨ k = 15 ∨ k = 16 ∨ k = 17) (ht : tt = rf_rt k lt rt ra) (hn : ¬ tt = -1) (hx : rf_ok N rt x) : rf_x1 k x = rf_q1 N k x ∧ rf_ok N tt (rf_q1 N k x) := by
  rcases hk with rfl | rfl | rfl | rfl | rfl | rfl
  · have e : rf_rt 10 lt rt ra = if rt = 2 then 2 else -1 := rfl
    rw [e] at ht
    by_cases h2 : rt = 2
    · rw [if_pos h2] at ht
      subst ht
      exact ⟨rf_trE hN x (rf_ok2 hx h2), Or.inr (Or.inr ⟨rfl, rf_y3V hN x⟩)⟩
    · rw [if_neg h2] at ht
      exact absurd ht hn
  · have e : rf_rt 11 lt rt ra = if rt = 2 then 2 else -1 := rfl
    rw [e] at ht
    by_cases h2 : rt = 2
    · rw [if_pos h2] at ht
      subst ht
      exact ⟨rf_clE hN x (rf_ok2 hx h2), Or.inr (Or.inr ⟨rfl, rf_clV hN x (rf_ok2 hx h2)⟩)⟩
    · rw [if_neg h2] at ht
      exact absurd ht hn
  · have e : rf_rt 14 lt rt ra = if ¬ rt = 0 then 0 else -1 := rfl
    rw [e] at ht
    by_cases h2 : ¬ rt = 0
    · rw [if_pos h2] at ht
      subst ht
      refine ⟨rfl, ?_⟩
      show rf_ok N 0 (if x = 0 then 0 else 1)
      by_cases hx0 : x = 0
      · rw [if_pos hx0]
        exact Or.inl ⟨rfl, Or.inl rfl⟩
      · rw [if_neg hx0]
        exact Or.inl ⟨rfl, Or.inr rfl⟩
    · rw [if_neg h2] at ht
      exact absurd ht hn
  · have e : rf_rt 15 lt rt ra = if ¬ rt = 0 then 0 else -1 := rfl
    rw [e] at ht
    by_cases h2 : ¬ rt = 0
    · rw [if_pos h2] at ht
      subst ht
      exact ⟨rfl, rf_okI (c := x = 0)⟩
    · rw [if_neg h2] at ht
      exact absurd ht hn
  · have e : rf_rt 16 lt rt ra = if ¬ rt = 0 then 0 else -1 := rfl
    rw [e] at ht
    by_cases h2 : ¬ rt = 0
    · rw [if_pos h2] at ht
      subst ht
      exact ⟨rfl, rf_okI (c := ¬ x = 0 ∧ x &&& (x - 1) = 0)⟩
    · rw [if_neg h2] at ht
      exact absurd ht hn
  · have e : rf_rt 17 lt rt ra = if rt = 0 then 0 else -1 := rfl
    rw [e] at ht
    by_cases h2 : rt = 0
    · rw [if_pos h2] at ht
      subst ht
      exact ⟨rfl, rf_okI (c := x = 0)⟩
    · rw [if_neg h2] at ht
      exact absurd ht hn
theorem rf_ee {N : Nat} {lt rt l x : Int32} (hl : rf_ok N lt l) (hx : rf_ok N rt x) (h : ¬ lt = 0 ∧ lt = rt) : (lt = 1 ∧ rf_vU N l ∧ rf_vU N x) ∨ (lt = 2 ∧ rf_vB N l ∧ rf_vB N x) := by
  obtain ⟨h0, rfl⟩ := h
  rcases rf_okt hl with e | e | e
  · exact absurd e h0
  · exact Or.inl ⟨e, rf_ok1 hl e, rf_ok1 hx e⟩
  · exact Or.inr ⟨e, rf_ok2 hl e, rf_ok2 hx e⟩
theorem rf_e2e {N : Nat} (f : Int32) {lt l : Int32} (h : (lt = 1 ∧ rf_vU N f) ∨ (lt = 2 ∧ rf_vB N f)) : rf_ok N lt f := h.elim (fun z => Or.inr (Or.inl z)) (fun z => Or.inr (Or.inr z))
theorem rf_imp {l x : Int32} (hl : l = 0 ∨ l = 1) (hx : x = 0 ∨ x = 1) : (if l &&& (x ^^^ (-1)) = 0 then (1 : Int32) else 0) = if l = 0 ∨ ¬ x = 0 then 1 else 0 := by
  rcases hl with rfl | rfl <;> rcases hx with rfl | rfl <;> decide +kernel
theorem rf_e2 {N : Nat} (hN : N ≤ 4) (k lt rt ra l x tt : Int32) (hk : k = 5 ∨ k = 6 ∨ k = 7 ∨ k = 8 ∨ k = 9 ∨ k = 12 ∨ k = 13 ∨ k = 18 ∨ k = 19 ∨ k = 20) (ht : tt = rf_rt k lt rt ra) (hn : ¬ tt = -1) (hl : rf_ok N lt l) (hx : rf_ok N rt x) : rf_x2 (rf_sp k lt rt) l x = rf_q2 N k lt rt l x ∧ rf_ok N tt (rf_q2 N k lt rt l x) := by
  rcases hk with rfl | rfl | rfl | rfl | rfl | rfl | rfl | rfl | rfl | rfl
  · have e : rf_rt 5 lt rt ra = if ¬ lt = 0 ∧ lt = rt then lt else -1 := rfl
    rw [e] at ht
    by_cases h2 : ¬ lt = 0 ∧ lt = rt
    · rw [if_pos h2] at ht
      subst ht
      refine ⟨rfl, ?_⟩
      rcases rf_ee hl hx h2 with ⟨e, a, b⟩ | ⟨e, a, b⟩
      · exact Or.inr (Or.inl ⟨e, rf_vUor a b⟩)
      · exact Or.inr (Or.inr ⟨e, rf_vBor a b⟩)
    · rw [if_neg h2] at ht
      exact absurd ht hn
  · have e : rf_rt 6 lt rt ra = if ¬ lt = 0 ∧ lt = rt then lt else -1 := rfl
    rw [e] at ht
    by_cases h2 : ¬ lt = 0 ∧ lt = rt
    · rw [if_pos h2] at ht
      subst ht
      refine ⟨rfl, ?_⟩
      rcases rf_ee hl hx h2 with ⟨e, a, b⟩ | ⟨e, a, b⟩
      · exact Or.inr (Or.inl ⟨e, rf_vUand x a⟩)
      · exact Or.inr (Or.inr ⟨e, rf_vBand x a⟩)
    · rw [if_neg h2] at ht
      exact absurd ht hn
  · have e : rf_rt 7 lt rt ra = if ¬ lt = 0 ∧ lt = rt then lt else -1 := rfl
    rw [e] at ht
    by_cases h2 : ¬ lt = 0 ∧ lt = rt
    · rw [if_pos h2] at ht
      subst ht
      refine ⟨rfl, ?_⟩
      rcases rf_ee hl hx h2 with ⟨e, a, b⟩ | ⟨e, a, b⟩
      · exact Or.inr (Or.inl ⟨e, rf_vUand (x ^^^ (-1)) a⟩)
      · exact Or.inr (Or.inr ⟨e, rf_vBand (x ^^^ (-1)) a⟩)
    · rw [if_neg h2] at ht
      exact absurd ht hn
  · have e : rf_rt 8 lt rt ra = if lt = 0 ∨ rt = 0 ∨ (lt = 1 ∧ rt = 1) then -1 else if lt = 2 ∧ rt = 2 then 2 else 1 := rfl
    rw [e] at ht
    by_cases h2 : lt = 0 ∨ rt = 0 ∨ (lt = 1 ∧ rt = 1)
    · rw [if_pos h2] at ht
      exact absurd ht hn
    · rw [if_neg h2] at ht
      rcases rf_okt hl with e1 | e1 | e1
      · exact absurd (Or.inl e1) h2
      · rcases rf_okt hx with e2 | e2 | e2
        · exact absurd (Or.inr (Or.inl e2)) h2
        · exact absurd (Or.inr (Or.inr ⟨e1, e2⟩)) h2
        · subst e1 e2
          have ht' : tt = 1 := ht
          subst ht'
          exact ⟨rf_imE hN l x (rf_ok2 hx rfl), Or.inr (Or.inl ⟨rfl, rf_y0V hN l x⟩)⟩
      · rcases rf_okt hx with e2 | e2 | e2
        · exact absurd (Or.inr (Or.inl e2)) h2
        · subst e1 e2
          have ht' : tt = 1 := ht
          subst ht'
          exact ⟨rf_preE hN l x (rf_ok2 hl rfl) (rf_ok1 hx rfl), Or.inr (Or.inl ⟨rfl, rf_y1V hN l x⟩)⟩
        · subst e1 e2
          have ht' : tt = 2 := ht
          subst ht'
          exact ⟨rf_coE hN l x (rf_ok2 hl rfl), Or.inr (Or.inr ⟨rfl, rf_ycV hN l x (rf_ok2 hx rfl)⟩)⟩
  · have e : rf_rt 9 lt rt ra = if lt = 1 ∧ rt = 1 then 2 else -1 := rfl
    rw [e] at ht
    by_cases h2 : lt = 1 ∧ rt = 1
    · rw [if_pos h2] at ht
      subst ht
      exact ⟨rf_prE hN l x (rf_ok1 hl h2.1) (rf_ok1 hx h2.2), Or.inr (Or.inr ⟨rfl, rf_y2V hN l x⟩)⟩
    · rw [if_neg h2] at ht
      exact absurd ht hn
  · have e : rf_rt 12 lt rt ra = if ¬ lt = 0 ∧ lt = rt then 0 else -1 := rfl
    rw [e] at ht
    by_cases h2 : ¬ lt = 0 ∧ lt = rt
    · rw [if_pos h2] at ht
      subst ht
      exact ⟨rfl, rf_okI (c := l &&& (x ^^^ (-1)) = 0)⟩
    · rw [if_neg h2] at ht
      exact absurd ht hn
  · have e : rf_rt 13 lt rt ra = if ¬ lt = 0 ∧ lt = rt then 0 else -1 := rfl
    rw [e] at ht
    by_cases h2 : ¬ lt = 0 ∧ lt = rt
    · rw [if_pos h2] at ht
      subst ht
      exact ⟨rfl, rf_okI (c := l = x)⟩
    · rw [if_neg h2] at ht
      exact absurd ht hn
  · have e : rf_rt 18 lt rt ra = if lt = 0 ∧ rt = 0 then 0 else -1 := rfl
    rw [e] at ht
    by_cases h2 : lt = 0 ∧ rt = 0
    · rw [if_pos h2] at ht
      subst ht
      refine ⟨rfl, Or.inl ⟨rfl, ?_⟩⟩
      show l &&& x = 0 ∨ l &&& x = 1
      rcases rf_ok0 hl h2.1 with rfl | rfl <;> rcases rf_ok0 hx h2.2 with rfl | rfl <;> decide +kernel
    · rw [if_neg h2] at ht
      exact absurd ht hn
  · have e : rf_rt 19 lt rt ra = if lt = 0 ∧ rt = 0 then 0 else -1 := rfl
    rw [e] at ht
    by_cases h2 : lt = 0 ∧ rt = 0
    · rw [if_pos h2] at ht
      subst ht
      refine ⟨rfl, Or.inl ⟨rfl, ?_⟩⟩
      show l ||| x = 0 ∨ l ||| x = 1
      rcases rf_ok0 hl h2.1 with rfl | rfl <;> rcases rf_ok0 hx h2.2 with rfl | rfl <;> decide +kernel
    · rw [if_neg h2] at ht
      exact absurd ht hn
  · have e : rf_rt 20 lt rt ra = if lt = 0 ∧ rt = 0 then 0 else -1 := rfl
    rw [e] at ht
    by_cases h2 : lt = 0 ∧ rt = 0
    · rw [if_pos h2] at ht
      subst ht
      refine ⟨?_, rf_okI (c := l = 0 ∨ ¬ x = 0)⟩
      exact rf_imp (rf_ok0 hl h2.1) (rf_ok0 hx h2.2)
    · rw [if_neg h2] at ht
      exact absurd ht hn
/-! quantifiers over 0 and 1 -/
def rf_qa (N : Nat) (g : Nat → Int32) : Int32 := rf_it (fun a r => if g a = 0 then 0 else r) 1 N
def rf_qe (N : Nat) (g : Nat → Int32) : Int32 := rf_it (fun a r => if g a = 0 then r else 1) 0 N
def rf_sm (N : Nat) (g : Nat → Int32) : Int32 := rf_it (fun a r => r + g a) 0 N
theorem rf_itc {σ : Type} (F G : Nat → σ → σ) (s : σ) : ∀ n, (∀ a, a < n → ∀ r, F a r = G a r) → rf_it F s n = rf_it G s n := by
  intro n
  induction n with
  | zero => exact fun _ => rfl
  | succ n ih =>
    intro h
    show F n (rf_it F s n) = G n (rf_it G s n)
    rw [ih (fun a ha => h a (by omega)), h n (by omega)]
theorem rf_qac {N : Nat} {g g' : Nat → Int32} (h : ∀ a, a < N → g a = g' a) : rf_qa N g = rf_qa N g' := rf_itc _ _ _ N (fun a ha r => by rw [h a ha])
theorem rf_qec {N : Nat} {g g' : Nat → Int32} (h : ∀ a, a < N → g a = g' a) : rf_qe N g = rf_qe N g' := rf_itc _ _ _ N (fun a ha r => by rw [h a ha])
theorem rf_smc {N : Nat} {g g' : Nat → Int32} (h : ∀ a, a < N → g a = g' a) : rf_sm N g = rf_sm N g' := rf_itc _ _ _ N (fun a ha r => by rw [h a ha])
def rf_g4 (x0 x1 x2 x3 : Int32) (a : Nat) : Int32 := if a = 0 then x0 else if a = 1 then x1 else if a = 2 then x2 else x3
def rf_bi (b : Bool) : Int32 := if b = true then 1 else 0
theorem rf_bie {x : Int32} (h : x = 0 ∨ x = 1) : x = rf_bi (decide (x = 1)) := by
  rcases h with rfl | rfl <;> decide +kernel
theorem rf_qk : ∀ b0 b1 b2 b3 : Bool, ∀ N, N < 5 → 1 ≤ N → (if nI N ≤ rf_sm N (rf_g4 (rf_bi b0) (rf_bi b1) (rf_bi b2) (rf_bi b3)) then (1 : Int32) else 0) = rf_qa N (rf_g4 (rf_bi b0) (rf_bi b1) (rf_bi b2) (rf_bi b3)) ∧ (if 1 ≤ rf_sm N (rf_g4 (rf_bi b0) (rf_bi b1) (rf_bi b2) (rf_bi b3)) then (1 : Int32) else 0) = rf_qe N (rf_g4 (rf_bi b0) (rf_bi b1) (rf_bi b2) (rf_bi b3)) ∧ (rf_qa N (rf_g4 (rf_bi b0) (rf_bi b1) (rf_bi b2) (rf_bi b3)) = 0 ∨ rf_qa N (rf_g4 (rf_bi b0) (rf_bi b1) (rf_bi b2) (rf_bi b3)) = 1) ∧ (rf_qe N (rf_g4 (rf_bi b0) (rf_bi b1) (rf_bi b2) (rf_bi b3)) = 0 ∨ rf_qe N (rf_g4 (rf_bi b0) (rf_bi b1) (rf_bi b2) (rf_bi b3)) = 1) := by decide +kernel
theorem rf_qaS {N : Nat} (h1 : 1 ≤ N) (hN : N ≤ 4) (g : Nat → Int32) (hg : ∀ a, a < N → g a = 0 ∨ g a = 1) : (if nI N ≤ rf_sm N g then (1 : Int32) else 0) = rf_qa N g ∧ (if 1 ≤ rf_sm N g then (1 : Int32) else 0) = rf_qe N g ∧ (rf_qa N g = 0 ∨ rf_qa N g = 1) ∧ (rf_qe N g = 0 ∨ rf_qe N g = 1) := by
  have e : ∀ a, a < N → g a = rf_g4 (rf_bi (decide (g 0 = 1))) (rf_bi (decide (g 1 = 1))) (rf_bi (decide (g 2 = 1))) (rf_bi (decide (g 3 = 1))) a := by
    intro a ha
    have hc : a = 0 ∨ a = 1 ∨ a = 2 ∨ a = 3 := by omega
    rcases hc with rfl | rfl | rfl | rfl
    · exact rf_bie (hg 0 ha)
    · exact rf_bie (hg 1 ha)
    · exact rf_bie (hg 2 ha)
    · exact rf_bie (hg 3 ha)
  rw [rf_smc e, rf_qac e, rf_qec e]
  exact rf_qk _ _ _ _ N (by omega) h1
