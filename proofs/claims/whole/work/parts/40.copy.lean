/-! ===== rows copied, counts, bytes fed, kinds ===== -/
theorem up_cpy {σ : kS} {c : Nat} {f : Nat → Int32} {i j n : Nat} : va_up σ c (va_cpy f (σ c) i j n) = blk σ c j n (fun t => f (i + t)) := by
  funext d k
  unfold va_up va_cpy blk
  by_cases h : d = c
  · subst h
    rw [if_pos rfl]
    by_cases g : j ≤ k ∧ k < j + n
    · rw [if_pos g, if_pos ⟨rfl, g⟩]
    · rw [if_neg g, if_neg (fun q => g q.2)]
  · rw [if_neg h, if_neg (fun q => h q.1)]
theorem nI_ngq {n : Nat} (h : n < 2 ^ 31) : ¬ nI n < 0 := by
  have z : (0 : Int32).toInt = 0 := by decide
  rw [fa_lt, nI_toInt h, z]
  omega
section CP
variable {N : Nat} {σ : kS} {H : Nat → Nat} {Q : Int32 → kS → Prop} {G : Int32 → Int32 → kS → Prop}
theorem t_inM2 {x c : Int32} {n : Nat} (hn : n ≤ 40) (hc : 0 ≤ c.toInt) : w_X7_in N σ x.toInt64 0 ((nI n).toInt64 - c.toInt64) Q = if 0 ≤ x.toInt ∧ x.toInt + c.toInt ≤ n then Q 1 σ else Q 0 σ := by
  have r2 := fb_rng c
  have e : ((nI n).toInt64 - c.toInt64).toInt = n - c.toInt := by
    have e1 : (nI n).toInt64.toInt = n := by rw [Int32.toInt_toInt64, nI_toInt (by omega)]
    have e2 : c.toInt64.toInt = c.toInt := Int32.toInt_toInt64 c
    rw [Int64.toInt_sub, e1, e2, Int.bmod_eq_of_le (by omega) (by omega)]
  rw [t_in32 0 (n - c.toInt) (by decide) e]
  by_cases h : 0 ≤ x.toInt ∧ x.toInt + c.toInt ≤ n
  · rw [if_pos h, if_pos (by omega)]
  · rw [if_neg h, if_neg (by omega)]
theorem P_copy (hN : 5000 ≤ N) (hI : Inv σ) (x1 x2 x3 x4 x5 : Int32) (hG : ∀ r τ, Inv τ → G r r τ) : w_X6_copy N σ x1 x2 x3 x4 x5 (fun r1 τ => w_X7_copy N τ x1 x2 x3 x4 x5 (fun r2 υ => G r1 r2 υ)) := by
  simp only [w_X6_copy, t_isRow6]
  by_cases h : 0 ≤ x1.toInt ∧ x1.toInt < 8
  · by_cases g : 0 ≤ x3.toInt ∧ x3.toInt < 8
    · obtain ⟨a, ha, rfl⟩ := arg_in8 h
      obtain ⟨b, hb, rfl⟩ := arg_in8 g
      have hva : vp_in (nI a) 8 := vp_in_nI ha (by decide)
      have ca : (nI a).toNatClampNeg = a := nI_clamp (by omega)
      have hvb : vp_in (nI b) 8 := vp_in_nI hb (by decide)
      have cb : (nI b).toNatClampNeg = b := nI_clamp (by omega)
      simp only [h, g, and_self, if_true, z10, if_false, true_and, hva, ca, hvb, cb, t_miss]
      rcases hI.choose_spec.2.1 a ha with ⟨m1, m2⟩ | ⟨l, n, h1, h2, h3, h4, h5, h6, h7⟩
      · simp only [m1, and_self, if_true, z10, if_false, true_and, t_found, w_X7_copy, t_isRow7, h, g, hva, ca, hvb, cb]
        have e : st2 σ 0 8 1 57 a = -1 := by rw [st2_app, if_neg (by omega), m2]
        simp only [e, m1_lt, if_true, t_find]
        exact hG _ _ (Inv_stat hI 1)
      · simp only [h3, nIm1 (show l < 2 ^ 31 by omega), and_self, if_true, z10, if_false, true_and]
        rcases hI.choose_spec.2.1 b hb with ⟨m1, m2⟩ | ⟨l', n', g1, g2, g3, g4, g5, g6, g7⟩
        · simp only [m1, and_self, if_true, z10, if_false, true_and, t_found, w_X7_copy, t_isRow7, h, g, hva, ca, hvb, cb]
          have e : st2 σ 0 8 1 57 a = nI n := by rw [st2_app, if_neg (by omega), h6]
          have e' : st2 σ 0 8 1 57 b = -1 := by rw [st2_app, if_neg (by omega), m2]
          simp only [e, e', nI_ngq (show n < 2 ^ 31 by omega), m1_nle, if_false, t_find]
          exact hG _ _ (Inv_stat hI 1)
        · simp only [g3, nIm1 (show l' < 2 ^ 31 by omega), and_self, if_true, z10, if_false, true_and, z_eq (show l < 2 ^ 31 by omega) (show l' < 2 ^ 31 by omega)]
          by_cases el : l = l'
          · rw [if_pos el]
            simp only [t_places h5 h2, t_places g5 g2]
            by_cases p1 : 0 ≤ x2.toInt ∧ 0 ≤ x5.toInt ∧ x2.toInt + x5.toInt ≤ n
            · by_cases p2 : 0 ≤ x4.toInt ∧ 0 ≤ x5.toInt ∧ x4.toInt + x5.toInt ≤ n'
              · simp only [p1, p2, and_self, if_true, z10, if_false, true_and]
                obtain ⟨i, i1, rfl, i2⟩ := nI_inv p1.1
                obtain ⟨j, j1, rfl, j2⟩ := nI_inv p2.1
                obtain ⟨m, mm1, rfl, mm2⟩ := nI_inv p1.2.1
                have ci : (nI i).toNatClampNeg = i := nI_clamp (by omega)
                have cj : (nI j).toNatClampNeg = j := nI_clamp (by omega)
                have cm : (nI m).toNatClampNeg = m := nI_clamp (by omega)
                simp only [ci, cj, cm, nI_ngq i1, nI_ngq j1, nI_ngq mm1, not_false_eq_true, true_and, up_cpy, forall_eq, t_fine]
                refine ⟨by omega, ?_⟩
                have e1 : st2 (blk σ (2 + 2 * b + 1) j m fun t => σ (2 + 2 * a + 1) (i + t)) 0 8 0 57 a = nI n := by
                  repeat (first | rw [st_ne (by omega)] | rw [blk_out (by omega)])
                  exact h6
                have e2 : st2 (blk σ (2 + 2 * b + 1) j m fun t => σ (2 + 2 * a + 1) (i + t)) 0 8 0 57 b = nI n' := by
                  repeat (first | rw [st_ne (by omega)] | rw [blk_out (by omega)])
                  exact g6
                have e3 : st2 (blk σ (2 + 2 * b + 1) j m fun t => σ (2 + 2 * a + 1) (i + t)) 0 8 0 56 a = nI l := by
                  repeat (first | rw [st_ne (by omega)] | rw [blk_out (by omega)])
                  exact h4
                have e4 : st2 (blk σ (2 + 2 * b + 1) j m fun t => σ (2 + 2 * a + 1) (i + t)) 0 8 0 56 b = nI l' := by
                  repeat (first | rw [st_ne (by omega)] | rw [blk_out (by omega)])
                  exact g4
                simp only [w_X7_copy, t_isRow7, h, g, and_self, if_true, z10, if_false, true_and, hva, ca, hvb, cb, e1, e2, e3, e4, nI_ngq (show n < 2 ^ 31 by omega), nI_pos' (show n' < 2 ^ 31 by omega), z_eq (show l < 2 ^ 31 by omega) (show l' < 2 ^ 31 by omega), el, nI_ngq mm1, t_inM2 h2 p1.2.1, t_inM2 g2 p1.2.1, p1, p2]
                have w1 := fun E => l_copy117 (N := N) (Q := fun r2 υ => G (nI m) r2 υ) (x3 := nI b) (x4 := nI j) (E := E) (σ := st2 (blk σ (2 + 2 * b + 1) j m fun t => σ (2 + 2 * a + 1) (i + t)) 0 8 0) (a := a) (i := i) (n0 := m) ha (by omega) m N 0 (by omega) (by omega)
                simp only [blk_0] at w1
                refine Eq.mpr (w1 _) ?_
                have w2 := fun E τ => l_copy154 (N := N) (Q := fun r2 υ => G (nI m) r2 υ) (E := E) (σ := τ) (b := b) (i := j) (n0 := m) hb (by omega) m N 0 (by omega) (by omega)
                simp only [blk_0] at w2
                refine Eq.mpr (w2 _ _) ?_
                rw [t_well]
                refine hG _ _ (Inv_rows hI (fun c k q => ?_) (fun r' hr' => ?_) ?_)
                · repeat (first | rw [st_ne (by omega)] | rw [blk_out (by omega)])
                · by_cases e : r' = b
                  · subst e
                    right
                    refine ⟨l', n', g1, g2, ?_, ?_, ?_, ?_, fun u hu => ?_⟩
                    · repeat (first | rw [st_ne (by omega)] | rw [blk_out (by omega)])
                      exact g3
                    · repeat (first | rw [st_ne (by omega)] | rw [blk_out (by omega)])
                      exact g4
                    · repeat (first | rw [st_ne (by omega)] | rw [blk_out (by omega)])
                      exact g5
                    · repeat (first | rw [st_ne (by omega)] | rw [blk_out (by omega)])
                      exact g6
                    · by_cases ej : j ≤ u ∧ u < j + m
                      · rw [st_ne (by omega), blk_out (by omega), blk_out (by omega), st_ne (by omega), blk_in (by omega) (by omega)]
                        rw [st_ne (by omega), blk_in (by omega) (by omega), blk_in (by omega) (by omega), st_ne (by omega), blk_out (by omega)]
                        rw [h7 _ (by omega)]
                        congr 1
                        omega
                      · repeat (first | rw [st_ne (by omega)] | rw [blk_out (by omega)])
                        exact g7 u hu
                  · refine RWr_cong (fun c k q => ?_) (hI.choose_spec.2.1 r' hr')
                    repeat (first | rw [st_ne (by omega)] | rw [blk_out (by omega)])
                · rw [st_eq]
                  repeat (first | rw [st_ne (by omega)] | rw [blk_out (by omega)])
                  rw [st_eq]
              · have e1 : st2 σ 0 8 2 57 a = nI n := by rw [st2_app, if_neg (by omega), h6]
                have e2 : st2 σ 0 8 2 57 b = nI n' := by rw [st2_app, if_neg (by omega), g6]
                have e3 : st2 σ 0 8 2 56 a = nI l := by rw [st2_app, if_neg (by omega), h4]
                have e4 : st2 σ 0 8 2 56 b = nI l' := by rw [st2_app, if_neg (by omega), g4]
                have n5 : ¬ x5 < 0 := by
                  have z : (0 : Int32).toInt = 0 := by decide
                  rw [fa_lt, z]; omega
                have p3 : ¬ (0 ≤ x4.toInt ∧ x4.toInt + x5.toInt ≤ n') := by omega
                simp only [p1, p2, and_self, if_true, z10, if_false, true_and, t_found, w_X7_copy, t_isRow7, h, g, hva, ca, hvb, cb, e1, e2, e3, e4, nI_ngq (show n < 2 ^ 31 by omega), nI_pos' (show n' < 2 ^ 31 by omega), z_eq (show l < 2 ^ 31 by omega) (show l' < 2 ^ 31 by omega), el, n5, t_inM2 h2 p1.2.1, t_inM2 g2 p1.2.1, p3, t_find]
                exact hG _ _ (Inv_stat hI 2)
            · have e1 : st2 σ 0 8 2 57 a = nI n := by rw [st2_app, if_neg (by omega), h6]
              have e2 : st2 σ 0 8 2 57 b = nI n' := by rw [st2_app, if_neg (by omega), g6]
              have e3 : st2 σ 0 8 2 56 a = nI l := by rw [st2_app, if_neg (by omega), h4]
              have e4 : st2 σ 0 8 2 56 b = nI l' := by rw [st2_app, if_neg (by omega), g4]
              simp only [p1, and_self, if_true, z10, if_false, true_and, t_found, w_X7_copy, t_isRow7, h, g, hva, ca, hvb, cb, e1, e2, e3, e4, nI_ngq (show n < 2 ^ 31 by omega), nI_pos' (show n' < 2 ^ 31 by omega), z_eq (show l < 2 ^ 31 by omega) (show l' < 2 ^ 31 by omega), el]
              by_cases n5 : x5 < 0
              · simp only [n5, if_true, t_find]
                exact hG _ _ (Inv_stat hI 2)
              · have n6 : 0 ≤ x5.toInt := by
                  have z : (0 : Int32).toInt = 0 := by decide
                  rw [fa_lt, z] at n5; omega
                have p3 : ¬ (0 ≤ x2.toInt ∧ x2.toInt + x5.toInt ≤ n) := by omega
                simp only [n5, and_self, if_true, z10, if_false, true_and, t_inM2 h2 n6, p3, t_find]
                exact hG _ _ (Inv_stat hI 2)
          · have e1 : st2 σ 0 8 5 57 a = nI n := by rw [st2_app, if_neg (by omega), h6]
            have e2 : st2 σ 0 8 5 57 b = nI n' := by rw [st2_app, if_neg (by omega), g6]
            have e3 : st2 σ 0 8 5 56 a = nI l := by rw [st2_app, if_neg (by omega), h4]
            have e4 : st2 σ 0 8 5 56 b = nI l' := by rw [st2_app, if_neg (by omega), g4]
            simp only [el, and_self, if_true, z10, if_false, true_and, t_found, w_X7_copy, t_isRow7, h, g, hva, ca, hvb, cb, e1, e2, e3, e4, nI_ngq (show n < 2 ^ 31 by omega), nI_pos' (show n' < 2 ^ 31 by omega), z_eq (show l < 2 ^ 31 by omega) (show l' < 2 ^ 31 by omega), t_find]
            exact hG _ _ (Inv_stat hI 5)
    · simp only [h, g, and_self, if_true, z10, if_false, true_and, w_X7_copy, t_isRow7, hG _ _ hI]
  · simp only [h, and_self, if_true, z10, if_false, true_and, w_X7_copy, t_isRow7, hG _ _ hI]
end CP
