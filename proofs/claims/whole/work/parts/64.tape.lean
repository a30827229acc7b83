/-! ===== hall: the class's tape ===== -/
def BTc (σ : kS) (t : Nat → Nat) (n : Nat) : Prop := n ≤ 120 ∧ σ 31 3 = nI n ∧ ∀ i, i < n → σ 32 i = nI (t i) ∧ t i < 256
def fltS (τ : kS) (k i : Nat) : kS := st2 (st2 (st2 τ 31 2 (nI k)) 31 4 (nI i)) 31 5 (nI k)
theorem m1_ne {c : Nat} (hc : c < 2 ^ 31) : ¬ (-1 : Int32) = nI c := by
  rw [fa_eq, nI_toInt hc]
  have : (-1 : Int32).toInt = -1 := by decide
  omega
def FB (τ : kS) : Prop := ∃ (t : Nat → Nat) (n i : Nat), BTc τ t n ∧ i ≤ 120 ∧ τ 31 1 = nI i ∧ ¬ τ 31 2 = 0
theorem FB_st {τ : kS} {c j : Nat} {v : Int32} (h : 39 ≤ c) : FB (st2 τ c j v) = FB τ := by
  have e1 : ∀ k, st2 τ c j v 31 k = τ 31 k := fun k => by rw [st2_app, if_neg (by omega)]
  have e2 : ∀ k, st2 τ c j v 32 k = τ 32 k := fun k => by rw [st2_app, if_neg (by omega)]
  unfold FB BTc
  simp only [e1, e2]
theorem FB_39 {τ : kS} {j : Nat} {v : Int32} : FB (st2 τ 39 j v) = FB τ := FB_st (by omega)
theorem FB_40 {τ : kS} {j : Nat} {v : Int32} : FB (st2 τ 40 j v) = FB τ := FB_st (by omega)
theorem FB_41 {τ : kS} {j : Nat} {v : Int32} : FB (st2 τ 41 j v) = FB τ := FB_st (by omega)
theorem FB_42 {τ : kS} {j : Nat} {v : Int32} : FB (st2 τ 42 j v) = FB τ := FB_st (by omega)
theorem FB_43 {τ : kS} {j : Nat} {v : Int32} : FB (st2 τ 43 j v) = FB τ := FB_st (by omega)
theorem FB_44 {τ : kS} {j : Nat} {v : Int32} : FB (st2 τ 44 j v) = FB τ := FB_st (by omega)
section TC
variable {N : Nat} {τ : kS} {t : Nat → Nat} {n i : Nat} {Q : Int32 → kS → Prop} {Qv : kS → Prop}
theorem t_bAt {i : Nat} (hB : BTc τ t n) (hi : i < 1000) : w_X5_byteAt N τ (nI i) Q = Q (if i < n then nI (t i) else -1) τ := by
  have hn := hB.1
  unfold w_X5_byteAt
  rw [if_neg (nI_pos (by omega)), hB.2.1]
  by_cases e : i < n
  · rw [if_neg (fun q => absurd ((z_le (by omega) (by omega)).mp q) (by omega)), if_pos e, nI_clamp (by omega), (hB.2.2 i e).1]
    have : vp_in (nI i) 120 := vp_in_nI (by omega) (by decide)
    simp [this]
  · rw [if_pos ((z_le (by omega) (by omega)).mpr (by omega)), if_neg e]
theorem t_bHere (hB : BTc τ t n) (h1 : τ 31 1 = nI i) (hi : i ≤ 120) : w_X5_byteHere N τ Q = Q (if i < n then nI (t i) else -1) τ := by
  unfold w_X5_byteHere
  rw [h1, t_bAt hB (by omega)]
theorem t_sees {c : Nat} (hB : BTc τ t n) (h1 : τ 31 1 = nI i) (hi : i ≤ 120) (h2 : τ 31 2 = 0) (hc : c < 256) : w_X5_sees N τ (nI c) Q = if i < n ∧ t i = c then Q 1 τ else Q 0 τ := by
  unfold w_X5_sees
  rw [if_pos h2, t_bHere hB h1 hi]
  by_cases e : i < n
  · have := (hB.2.2 i e).2
    rw [if_pos e]
    by_cases f : t i = c
    · rw [if_pos (by rw [f]), if_pos ⟨e, f⟩]
    · rw [if_neg (fun q => f ((z_eq (by omega) (by omega)).mp q)), if_neg (fun q => f q.2)]
  · rw [if_neg e, if_neg (m1_ne (by omega)), if_neg (fun q => e q.1)]
theorem t_seesF {x : Int32} (h2 : ¬ τ 31 2 = 0) : w_X5_sees N τ x Q = Q 0 τ := by
  unfold w_X5_sees
  rw [if_neg h2]
theorem t_refuse {k : Nat} (h1 : τ 31 1 = nI i) (h2 : τ 31 2 = 0) : w_X5_refuse N τ (nI k) Qv = Qv (fltS τ k i) := by
  unfold w_X5_refuse
  rw [if_pos h2]
  simp only [forall_eq]
  have e : st2 τ 31 2 (nI k) 31 1 = nI i := by rw [st2_app, if_neg (by omega), h1]
  rw [e]
  rfl
theorem t_refuseF {x : Int32} (h2 : ¬ τ 31 2 = 0) : w_X5_refuse N τ x Qv = Qv τ := by
  unfold w_X5_refuse
  rw [if_neg h2]
theorem t_takeB {c : Nat} (hB : BTc τ t n) (h1 : τ 31 1 = nI i) (hi : i ≤ 120) (h2 : τ 31 2 = 0) (hc : c < 256) : w_X5_takeByte N τ (nI c) Qv = if i < n ∧ t i = c then Qv (st2 τ 31 1 (nI (i + 1))) else Qv (fltS τ 1 i) := by
  unfold w_X5_takeByte
  rw [t_sees hB h1 hi h2 hc]
  have r1 : w_X5_refuse N τ 1 (fun σ_3 => Qv σ_3) = Qv (fltS τ 1 i) := t_refuse (k := 1) h1 h2
  have e1 : nI i + 1 = nI (i + 1) := by rw [lit_1, nI_add]
  simp only [z10, if_false, if_true, forall_eq, h1, e1, r1]
theorem FB.f (h : FB τ) : ¬ τ 31 2 = 0 := by
  obtain ⟨t, n, i, -, -, -, h⟩ := h
  exact h
theorem t_takeBF {x : Int32} (h : FB τ) : w_X5_takeByte N τ x Qv = Qv τ := by
  unfold w_X5_takeByte
  rw [t_seesF h.f, if_pos rfl, t_refuseF h.f]
theorem t_isFig {j : Nat} (hB : BTc τ t n) : w_X5_isFigure N τ (if j < n then nI (t j) else -1) Q = Q (if fgN t n j = true then 1 else 0) τ := by
  unfold w_X5_isFigure
  by_cases e : j < n
  · have tl := (hB.2.2 j e).2
    rw [if_pos e, lit_48, lit_57]
    simp only [z_lt (show t j < 2 ^ 31 by omega) (show 48 < 2 ^ 31 by omega), z_lt (show 57 < 2 ^ 31 by omega) (show t j < 2 ^ 31 by omega)]
    by_cases a : t j < 48
    · rw [if_pos a, if_neg (fun q => by have := fg_iff.mp q; omega)]
    · rw [if_neg a]
      by_cases b : 57 < t j
      · rw [if_pos b, if_neg (fun q => by have := fg_iff.mp q; omega)]
      · rw [if_neg b, if_pos (fg_iff.mpr ⟨e, by omega, by omega⟩)]
  · rw [if_neg e, if_pos (by decide), if_neg (fun q => by have := fg_iff.mp q; omega)]
theorem l_figs (hB : BTc τ t n) (h1 : τ 31 1 = nI i) (hi : i ≤ 120) {f j : Nat} (hj : j ≤ 2) : l_X5_figuresHere_2 N Q (f + 1) (nI j) τ = if fgN t n (i + j) = true then l_X5_figuresHere_2 N Q f (nI (j + 1)) τ else Q (nI j) τ := by
  show b_X5_figuresHere_2 N Q _ (nI j) τ = _
  unfold b_X5_figuresHere_2
  have ej : nI j + 1 = nI (j + 1) := by rw [lit_1, nI_add]
  rw [lit_2, if_neg (fun q => absurd ((z_lt (by omega) (by omega)).mp q) (by omega)), h1, nI_add, t_bAt hB (by omega), t_isFig hB]
  simp only [forall_eq, ej]
  cases fgN t n (i + j)
  · rfl
  · simp only [if_true, z10, if_false]
theorem t_figs (hN : 5000 ≤ N) (hB : BTc τ t n) (h1 : τ 31 1 = nI i) (hi : i ≤ 120) : w_X5_figuresHere N τ Q = Q (nI (figN t n i)) τ := by
  unfold w_X5_figuresHere
  obtain ⟨m, hm⟩ : ∃ m, N = m + 1 + 1 + 1 + 1 := ⟨N - 4, by omega⟩
  have s0 := fun f => l_figs (N := N) (Q := Q) (f := f) hB h1 hi (j := 0) (by omega)
  have s1 := fun f => l_figs (N := N) (Q := Q) (f := f) hB h1 hi (j := 1) (by omega)
  have s2 := fun f => l_figs (N := N) (Q := Q) (f := f) hB h1 hi (j := 2) (by omega)
  have s3 : ∀ f, l_X5_figuresHere_2 N Q (f + 1) (nI 3) τ = Q (nI 3) τ := fun f => by
    show b_X5_figuresHere_2 N Q _ (nI 3) τ = _
    unfold b_X5_figuresHere_2
    rw [if_pos (by decide)]
  have e : l_X5_figuresHere_2 N Q N 0 τ = l_X5_figuresHere_2 N Q (m + 1 + 1 + 1 + 1) (nI 0) τ := by
    rw [← hm]
    rfl
  rw [e, s0, s1, s2, s3]
  unfold figN
  rw [Nat.add_zero]
  cases fgN t n i
  · rfl
  · cases fgN t n (i + 1)
    · rfl
    · cases fgN t n (i + 2)
      · rfl
      · rfl
theorem l_tn {x1 x2 : Int32} {E : Int32 → kS → Prop} (hN : 5000 ≤ N) (hB : BTc τ t n) (h1 : τ 31 1 = nI i) (hi : i ≤ 120) (hf : figN t n i = 1 ∨ figN t n i = 2) : l_X5_takeNumber_35 N Q x1 x2 (nI (figN t n i)) E N 0 0 τ = E (nI (vlN t n i)) τ ∧ vlN t n i < 100 := by
  obtain ⟨m, hm⟩ : ∃ m, N = m + 1 + 1 + 1 := ⟨N - 3, by omega⟩
  have st : ∀ f v j g, g ≤ 2 → j < g → fgN t n (i + j) = true → v < 100 → l_X5_takeNumber_35 N Q x1 x2 (nI g) E (f + 1) (nI v) (nI j) τ = l_X5_takeNumber_35 N Q x1 x2 (nI g) E f (nI (10 * v + (t (i + j) - 48))) (nI (j + 1)) τ := by
    intro f v j g hg hj hfg hv
    obtain ⟨q1, q2, q3⟩ := fg_iff.mp hfg
    show b_X5_takeNumber_35 N Q x1 x2 (nI g) E _ (nI v) (nI j) τ = _
    unfold b_X5_takeNumber_35
    have ej : nI j + 1 = nI (j + 1) := by rw [lit_1, nI_add]
    rw [if_neg (fun q => absurd ((z_le (by omega) (by omega)).mp q) (by omega)), h1, nI_add, t_bAt hB (by omega), if_pos q1]
    simp only [forall_eq, ej]
    rw [lit_10, lit_48, pk_mul, nI_add, pk_sub (by omega), show v * 10 + t (i + j) - 48 = 10 * v + (t (i + j) - 48) by omega]
  have en : ∀ f v g, g ≤ 2 → l_X5_takeNumber_35 N Q x1 x2 (nI g) E (f + 1) (nI v) (nI g) τ = E (nI v) τ := by
    intro f v g hg
    show b_X5_takeNumber_35 N Q x1 x2 (nI g) E _ (nI v) (nI g) τ = _
    unfold b_X5_takeNumber_35
    rw [if_pos ((z_le (by omega) (by omega)).mpr (by omega))]
  have e : ∀ g, l_X5_takeNumber_35 N Q x1 x2 (nI g) E N 0 0 τ = l_X5_takeNumber_35 N Q x1 x2 (nI g) E (m + 1 + 1 + 1) (nI 0) (nI 0) τ := fun g => by
    rw [← hm]
    rfl
  have f0 : fgN t n i = true := by
    unfold figN at hf
    cases c : fgN t n i
    · rw [c] at hf
      simp at hf
    · rfl
  have d0 := fg_iff.mp f0
  rw [e]
  rcases hf with hf | hf
  · rw [hf, st _ 0 0 1 (by omega) (by omega) f0 (by omega), en _ _ 1 (by omega)]
    unfold vlN
    rw [if_pos hf]
    refine ⟨?_, by omega⟩
    rw [Nat.add_zero, Nat.mul_zero, Nat.zero_add]
  · have f1 : fgN t n (i + 1) = true := by
      unfold figN at hf
      rw [f0, if_pos rfl] at hf
      cases c : fgN t n (i + 1)
      · rw [c] at hf
        simp at hf
      · rfl
    have d1 := fg_iff.mp f1
    have s1 := st (m + 1 + 1) 0 0 2 (by omega) (by omega) f0 (by omega)
    have s2 := st (m + 1) (t i - 48) 1 2 (by omega) (by omega) f1 (by omega)
    simp only [Nat.mul_zero, Nat.zero_add, Nat.add_zero] at s1
    rw [hf, s1, s2, en _ _ 2 (by omega)]
    unfold vlN
    rw [if_neg (by omega)]
    exact ⟨rfl, by omega⟩
theorem t_takeN {lo hi : Nat} (hN : 5000 ≤ N) (hB : BTc τ t n) (h1 : τ 31 1 = nI i) (hi' : i ≤ 120) (h2 : τ 31 2 = 0) (hl : lo < 1000) (hh : hi < 1000) : w_X5_takeNumber N τ (nI lo) (nI hi) Q = if figN t n i = 1 ∨ figN t n i = 2 then (if lo ≤ vlN t n i ∧ vlN t n i ≤ hi then Q (nI (vlN t n i)) (st2 τ 31 1 (nI (i + figN t n i))) else Q (nI lo) (fltS τ 2 i)) else Q (nI lo) (fltS τ 1 i) := by
  have f3 : figN t n i ≤ 3 := by
    unfold figN
    split
    · split
      · split <;> omega
      · omega
    · omega
  unfold w_X5_takeNumber
  rw [t_figs hN hB h1 hi', if_pos h2]
  by_cases e : figN t n i = 1 ∨ figN t n i = 2
  · obtain ⟨l1, l2⟩ := l_tn (N := N) (Q := Q) (x1 := nI lo) (x2 := nI hi) (E := (fun (x4_9 : Int32) (σ_10 : kS) => if x4_9 < nI lo then (w_X5_refuse N σ_10 2 (fun (σ_11 : kS) => Q (nI lo) σ_11)) else (if x4_9 ≤ nI hi then (∀ σ_13 : kS, σ_13 = st2 σ_10 31 1 ((σ_10 31 1) + nI (figN t n i)) → (Q x4_9 σ_13)) else (w_X5_refuse N σ_10 2 (fun (σ_14 : kS) => Q (nI lo) σ_14))))) hN hB h1 hi' e
    rw [if_pos e, lit_1, if_neg (fun q => absurd ((z_lt (by omega) (by omega)).mp q) (by omega)), lit_2, if_pos ((z_le (by omega) (by omega)).mpr (by omega))]
    refine Eq.trans l1 ?_
    simp only [h1, nI_add, forall_eq, z_lt (show vlN t n i < 2 ^ 31 by omega) (show lo < 2 ^ 31 by omega), z_le (show vlN t n i < 2 ^ 31 by omega) (show hi < 2 ^ 31 by omega)]
    rw [lit_2, t_refuse h1 h2]
    by_cases a : vlN t n i < lo
    · rw [if_pos a, if_neg (by omega)]
    · rw [if_neg a]
      by_cases b : vlN t n i ≤ hi
      · rw [if_pos b, if_pos ⟨by omega, b⟩]
      · rw [if_neg b, if_neg (fun q => b q.2)]
  · rw [if_neg e, lit_1, t_refuse h1 h2]
    by_cases a : figN t n i < 1
    · rw [if_pos ((z_lt (by omega) (by omega)).mpr a)]
    · rw [if_neg (fun q => a ((z_lt (by omega) (by omega)).mp q)), lit_2, if_neg (fun q => absurd ((z_le (by omega) (by omega)).mp q) (by omega))]
theorem t_takeNF {x1 x2 : Int32} (hN : 5000 ≤ N) (h : FB τ) : w_X5_takeNumber N τ x1 x2 Q = Q x1 τ := by
  obtain ⟨t, n, i, hB, hi, h1, h2⟩ := h
  unfold w_X5_takeNumber
  rw [t_figs hN hB h1 hi, if_neg h2, t_refuseF h2]
theorem t_seesSt {K : Nat} (hB : BTc τ t n) (h1 : τ 31 1 = nI i) (hi : i ≤ 120) (h2 : τ 31 2 = 0) (hK : K ≤ 12) : w_X5_seesString N τ (nI K) Q = if i < n ∧ 97 ≤ t i ∧ t i < 97 + K then Q 1 τ else Q 0 τ := by
  unfold w_X5_seesString
  rw [t_bHere hB h1 hi]
  simp only [forall_eq, h2, if_true]
  have z : (0 : Int32).toInt = 0 := by decide
  have z97 : (97 : Int32).toInt = 97 := by decide
  by_cases e : i < n
  · have tl := (hB.2.2 i e).2
    have d : (nI (t i) - 97).toInt = (t i : Int) - 97 := by
      rw [lit_97, pk_sub_toInt (by omega) (by omega)]
      rfl
    rw [if_pos e]
    simp only [fa_lt, fa_le, z, d, nI_toInt (show K < 2 ^ 31 by omega)]
    by_cases a : (t i : Int) - 97 < 0
    · rw [if_pos a, if_neg (by omega)]
    · rw [if_neg a]
      by_cases b : (K : Int) ≤ (t i : Int) - 97
      · rw [if_pos b, if_neg (by omega)]
      · rw [if_neg b, if_pos (by omega)]
  · rw [if_neg e, if_pos (by decide), if_neg (fun q => e q.1)]
theorem t_kdOf {b : Nat} (hb : b < 256) : w_X5_kindOfSort N τ (nI b) Q = Q (nI (kdN b)) τ := by
  unfold w_X5_kindOfSort kdN
  rw [lit_99, lit_109, lit_112, lit_115, lit_118]
  simp only [z_eq (show b < 2 ^ 31 by omega) (show 99 < 2 ^ 31 by omega), z_eq (show b < 2 ^ 31 by omega) (show 109 < 2 ^ 31 by omega), z_eq (show b < 2 ^ 31 by omega) (show 112 < 2 ^ 31 by omega), z_eq (show b < 2 ^ 31 by omega) (show 115 < 2 ^ 31 by omega), z_eq (show b < 2 ^ 31 by omega) (show 118 < 2 ^ 31 by omega)]
  by_cases a1 : b = 99
  · rw [if_pos a1, if_pos a1]; rfl
  · rw [if_neg a1, if_neg a1]
    by_cases a2 : b = 109
    · rw [if_pos a2, if_pos a2]; rfl
    · rw [if_neg a2, if_neg a2]
      by_cases a3 : b = 112
      · rw [if_pos a3, if_pos a3]; rfl
      · rw [if_neg a3, if_neg a3]
        by_cases a4 : b = 115
        · rw [if_pos a4, if_pos a4]; rfl
        · rw [if_neg a4, if_neg a4]
          by_cases a5 : b = 118
          · rw [if_pos a5, if_pos a5]; rfl
          · rw [if_neg a5, if_neg a5]; rfl
theorem t_seesSo (hB : BTc τ t n) (h1 : τ 31 1 = nI i) (hi : i ≤ 120) (h2 : τ 31 2 = 0) : w_X5_seesSort N τ Q = if i < n ∧ kdN (t i) ≠ 0 then Q 1 τ else Q 0 τ := by
  unfold w_X5_seesSort
  rw [if_pos h2, t_bHere hB h1 hi]
  by_cases e : i < n
  · have tl := (hB.2.2 i e).2
    have kl := kdN_le (t i)
    rw [if_pos e, t_kdOf tl, lit_0]
    by_cases a : kdN (t i) = 0
    · rw [if_pos (by rw [a]), if_neg (fun q => q.2 a)]
    · rw [if_neg (fun q => a ((z_eq (by omega) (by omega)).mp q)), if_pos ⟨e, a⟩]
  · rw [if_neg e, if_neg (fun q => e q.1)]
    unfold w_X5_kindOfSort
    rw [if_neg (by decide), if_neg (by decide), if_neg (by decide), if_neg (by decide), if_neg (by decide)]
    exact if_pos rfl
theorem t_seesSoF (h : FB τ) : w_X5_seesSort N τ Q = Q 0 τ := by
  unfold w_X5_seesSort
  rw [if_neg h.f]
theorem t_seesF' {x : Int32} (h : FB τ) : w_X5_sees N τ x Q = Q 0 τ := t_seesF h.f
theorem t_refF' {x : Int32} (h : FB τ) : w_X5_refuse N τ x Qv = Qv τ := t_refuseF h.f
end TC
