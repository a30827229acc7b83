section DS
variable {N : Nat} {σ : kS} {H : Nat → Nat} {Q : Int32 → kS → Prop} {G : Int32 → Int32 → kS → Prop}
theorem P_drawn (hN : 5000 ≤ N) (hI : Inv σ) (x1 x2 x3 : Int32) (hG : ∀ r τ, Inv τ → G r r τ) : w_X6_drawn N σ x1 x2 x3 (fun r1 τ => w_X7_drawn N τ x1 x2 x3 (fun r2 υ => G r1 r2 υ)) := by
  obtain ⟨H, ⟨hE, hC, hM, h4⟩, hR, hT, hTr, hIM, hA, hs⟩ := hI
  have hI : Inv σ := ⟨H, ⟨hE, hC, hM, h4⟩, hR, hT, hTr, hIM, hA, hs⟩
  simp only [w_X6_drawn, t_isTold hC hE, rngA (x := x3) (lo := 0) (hi := 1) 0 1 rfl rfl, rngB (x := x2) (lo := 1) (hi := 999999) 1 999999 rfl rfl, rngB (x := x1) (lo := 0) (hi := 60) 0 60 rfl rfl]
  by_cases h : 0 < H 0
  · have hV := hE.v0 h
    have h0 := hV.1
    have h2 := hV.2.2.1
    have h5 := hV.2.2.2.2.1
    have t4 : σ 55 4 = 1 := by
      rw [h4, if_neg (by omega)]
      rfl
    have q5 : ¬ σ 55 4 = 0 := by
      rw [t4]
      decide
    by_cases a : 0 ≤ x1.toInt ∧ x1.toInt ≤ 60
    · by_cases b : 1 ≤ x2.toInt ∧ x2.toInt ≤ 999999
      · by_cases d : 0 ≤ x3.toInt ∧ x3.toInt ≤ 1
        · obtain ⟨t, -, t2, rfl⟩ := arg_in2 (a := 0) (b := 60) a
          obtain ⟨z, z1, z2, rfl⟩ := arg_in2 (a := 1) (b := 999999) b
          obtain ⟨y, -, y2, rfl⟩ := arg_in2 (a := 0) (b := 1) d
          have ez : (nI z).toInt64 = lN z := by
            rw [fa_eq64, Int32.toInt_toInt64, nI_toInt (by omega), pk_lT (by omega)]
          have w1 : ∀ Q, w_X2_biasesOfAll N σ Q = _ := fun Q => l_biases (N := N) (Q := Q) hC hV (H 4) N 0 0 (by omega) (by omega)
          have w2 := fun x Q E => l_draws (N := N) (Q := Q) (E := E) (x := x) hC hV t2 rfl t N 0 z (H 2) 0 (by omega) (by omega) (by omega) h2 (by omega)
          have w3 := fun x3 Q E => l_drawn (N := N) (Q := Q) (E := E) (x3 := x3) hN hM hV t2 t N 0 z (H 2) 0 (by omega) (by omega) (by omega) h2 (by omega)
          have y0 : ((nI 0 : Int32) = 0) = True := eq_true rfl
          have y1 : ¬ (nI 1 : Int32) = 0 := by decide
          have y3 : ¬ (nI 0 : Int32) = 1 := by decide
          have y4 : ((nI 1 : Int32) = 1) = True := eq_true rfl
          have hy : y = 0 ∨ y = 1 := by omega
          simp only [h, a, b, d, and_self, if_true, z10, if_false, true_and]
          rcases hy with rfl | rfl
          · simp only [y3, if_false, w_X2_nightsByDraws, forall_eq, ez, hC.2.2.1, w1]
            refine Eq.mpr (w2 0 _ _) ?_
            simp only [if_true, w_X7_drawn, q5, if_false, t_in32 0 60 (show (0 : Int64).toInt = 0 by decide) (show (60 : Int64).toInt = 60 by decide), a, t_in32 1 999999 (show (1 : Int64).toInt = 1 by decide) (show (999999 : Int64).toInt = 999999 by decide), b, t_in32 0 1 (show (0 : Int64).toInt = 0 by decide) (show (1 : Int64).toInt = 1 by decide), d, and_self, if_true, z10, if_false, true_and, cl0, vq0, cl1, vq1, cl2, vq2, cl3, vq3, cl4, vq4, cl5, vq5, forall_eq, hM 2 (show 2 < 57 by omega)]
            rw [ez]
            refine Eq.mpr (w3 _ _ _) ?_
            simp only [y0, if_true, hG _ _ hI]
          · simp only [y4, if_true, w_X2_nightsByDraws, forall_eq, ez, hC.2.2.1, w1]
            refine Eq.mpr (w2 1 _ _) ?_
            simp only [z10, if_true, w_X7_drawn, q5, if_false, t_in32 0 60 (show (0 : Int64).toInt = 0 by decide) (show (60 : Int64).toInt = 60 by decide), a, t_in32 1 999999 (show (1 : Int64).toInt = 1 by decide) (show (999999 : Int64).toInt = 999999 by decide), b, t_in32 0 1 (show (0 : Int64).toInt = 0 by decide) (show (1 : Int64).toInt = 1 by decide), d, and_self, if_true, z10, if_false, true_and, cl0, vq0, cl1, vq1, cl2, vq2, cl3, vq3, cl4, vq4, cl5, vq5, forall_eq, hM 2 (show 2 < 57 by omega)]
            rw [ez]
            refine Eq.mpr (w3 _ _ _) ?_
            simp only [y1, if_false, hG _ _ hI]
        · simp only [h, a, b, d, and_self, if_true, z10, if_false, true_and, w_X7_drawn, q5, t_in32 0 60 (show (0 : Int64).toInt = 0 by decide) (show (60 : Int64).toInt = 60 by decide), t_in32 1 999999 (show (1 : Int64).toInt = 1 by decide) (show (999999 : Int64).toInt = 999999 by decide), t_in32 0 1 (show (0 : Int64).toInt = 0 by decide) (show (1 : Int64).toInt = 1 by decide), hG _ _ hI]
      · simp only [h, a, b, and_self, if_true, z10, if_false, true_and, w_X7_drawn, q5, t_in32 0 60 (show (0 : Int64).toInt = 0 by decide) (show (60 : Int64).toInt = 60 by decide), t_in32 1 999999 (show (1 : Int64).toInt = 1 by decide) (show (999999 : Int64).toInt = 999999 by decide), hG _ _ hI]
    · simp only [h, a, and_self, if_true, z10, if_false, true_and, w_X7_drawn, q5, t_in32 0 60 (show (0 : Int64).toInt = 0 by decide) (show (60 : Int64).toInt = 60 by decide), hG _ _ hI]
  · have q4 : σ 55 4 = 0 := by
      rw [h4, if_pos (by omega)]
      rfl
    simp only [h, and_self, if_true, z10, if_false, true_and, w_X7_drawn, q4, hG _ _ hI]
end DS
