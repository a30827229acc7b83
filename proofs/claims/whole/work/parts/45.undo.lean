/-! ===== undo, images ===== -/
def bcs (σ : kS) (c a : Nat) : kS := blk (blk (blk (blk (blk (st2 (st2 (st2 (st2 (st2 (st2 σ c 5 (σ a 5)) c 6 (σ a 6)) c 7 (σ a 7)) c 8 (σ a 8)) c 9 (σ a 9)) c 10 (σ a 10)) (c + 1) 0 4 (fun t => σ (a + 1) t)) (c + 2) 0 32 (fun t => σ (a + 2) t)) (c + 3) 0 5 (fun t => σ (a + 3) t)) (c + 4) 0 5 (fun t => σ (a + 4) t)) (c + 5) 0 5 (fun t => σ (a + 5) t)
section AW
variable {N : Nat} {σ : kS} {V : Nat → Nat → Nat} {m nx : Nat} {Q : Int32 → kS → Prop} {Qv : kS → Prop} {G : Int32 → Int32 → kS → Prop}
theorem cl32 : (32 : Int32).toNatClampNeg = 32 := rfl
theorem ng0 : (¬ (0 : Int32) < 0) = True := eq_true (by decide)
theorem ng4 : (¬ (4 : Int32) < 0) = True := eq_true (by decide)
theorem ng5 : (¬ (5 : Int32) < 0) = True := eq_true (by decide)
theorem ng32 : (¬ (32 : Int32) < 0) = True := eq_true (by decide)
theorem t_become {c a : Nat} (h : a + 5 < c ∨ c + 5 < a) : w_X3_become N σ c a Qv = Qv (bcs σ c a) := by
  unfold w_X3_become
  simp only [forall_eq, cl0, cl4, cl5, cl32, ng0, ng4, ng5, ng32, Nat.zero_add, Nat.le_refl, true_and, up_cpy]
  simp (disch := omega) only [blk_out, st_ne]
  rfl
theorem bcs_o {c a d k : Nat} (h : ¬ (c ≤ d ∧ d ≤ c + 5)) : bcs σ c a d k = σ d k := by
  unfold bcs
  repeat (first | rw [st_ne (by omega)] | rw [blk_out (by omega)])
theorem bcs_CH {c a : Nat} {H : Nat → Nat} (hV : HV H) (h : CH σ a H) : CH (bcs σ c a) c H := by
  obtain ⟨a0, a1, a2, a3, a4, a5, a6, a7, a8⟩ := h
  have h3 := hV.2.2.2.1
  have h4 := hV.2.2.2.2.1
  unfold bcs
  refine ⟨?_, ?_, ?_, ?_, ?_, ?_, fun p hp => ?_, fun p k hp hk => ?_, fun q hq => ⟨?_, ?_, ?_⟩⟩
  · repeat (first | rw [st_ne (by omega)] | rw [blk_out (by omega)])
    rw [st_eq, a0]
  · repeat (first | rw [st_ne (by omega)] | rw [blk_out (by omega)])
    rw [st_eq, a1]
  · repeat (first | rw [st_ne (by omega)] | rw [blk_out (by omega)])
    rw [st_eq, a2]
  · repeat (first | rw [st_ne (by omega)] | rw [blk_out (by omega)])
    rw [st_eq, a3]
  · repeat (first | rw [st_ne (by omega)] | rw [blk_out (by omega)])
    rw [st_eq, a4]
  · repeat (first | rw [st_ne (by omega)] | rw [blk_out (by omega)])
    rw [st_eq, a5]
  · repeat (first | rw [st_ne (by omega)] | rw [blk_out (by omega)])
    rw [blk_in (by omega) (by omega), Nat.sub_zero, a6 p hp]
  · have := (hV.2.2.2.2.2.2.1 p hp).2
    repeat (first | rw [st_ne (by omega)] | rw [blk_out (by omega)])
    rw [blk_in (by omega) (by omega), Nat.sub_zero, a7 p k hp hk]
  · repeat (first | rw [st_ne (by omega)] | rw [blk_out (by omega)])
    rw [blk_in (by omega) (by omega), Nat.sub_zero, (a8 q hq).1]
  · repeat (first | rw [st_ne (by omega)] | rw [blk_out (by omega)])
    rw [blk_in (by omega) (by omega), Nat.sub_zero, (a8 q hq).2.1]
  · rw [blk_in (by omega) (by omega), Nat.sub_zero, (a8 q hq).2.2]
theorem IMk_cong {τ : kS} {k : Nat} (h : ∀ c j, (19 + 6 * k ≤ c ∧ c ≤ 24 + 6 * k) ∨ (c = 66 ∧ j = k) ∨ (c = 67 ∧ 57 * k ≤ j ∧ j < 57 * k + 57) ∨ (c = 55 ∧ j = 4) → τ c j = σ c j) (hI : IMk σ k) : IMk τ k := by
  rcases hI with ⟨a, b⟩ | ⟨H, a, b, d, e⟩
  · left
    rw [h _ _ (by omega), h _ _ (by omega)]
    exact ⟨a, b⟩
  · right
    refine ⟨H, a, CH_cong (fun d k h1 h2 => h d k (by omega)) b, ?_, fun i hi => ?_⟩
    · rw [h _ _ (by omega), h _ _ (by omega)]
      exact d
    · rw [h _ _ (by omega), e i hi]
theorem t_isImage {x : Int32} : w_X6_isImage N σ x Q = if 0 ≤ x.toInt ∧ x.toInt < 2 then Q 1 σ else Q 0 σ := by
  unfold w_X6_isImage
  have z : (0 : Int32).toInt = 0 := by decide
  have z2 : (2 : Int32).toInt = 2 := by decide
  simp only [fa_lt, fa_le, z, z2]
  by_cases a : x.toInt < 0
  · rw [if_pos a, if_neg (by omega)]
  · rw [if_neg a]
    by_cases b : 2 ≤ x.toInt
    · rw [if_pos b, if_neg (by omega)]
    · rw [if_neg b, if_pos (by omega)]
theorem t_in01 {x : Int32} : w_X7_in N σ x.toInt64 0 1 Q = if 0 ≤ x.toInt ∧ x.toInt < 2 then Q 1 σ else Q 0 σ := by
  rw [t_in32 0 1 (show (0 : Int64).toInt = 0 by decide) (show (1 : Int64).toInt = 1 by decide)]
  by_cases h : 0 ≤ x.toInt ∧ x.toInt < 2
  · rw [if_pos h, if_pos (by omega)]
  · rw [if_neg h, if_neg (by omega)]
theorem P_image (hN : 5000 ≤ N) (hI : Inv σ) (x1 : Int32) (hG : ∀ r τ, Inv τ → G r r τ) : w_X6_image N σ x1 (fun r1 τ => w_X7_image N τ x1 (fun r2 υ => G r1 r2 υ)) := by
  obtain ⟨H, ⟨hE, hC, hM, h4⟩, hR, hT, hTr, hIM, hA, hs⟩ := hI
  have hI : Inv σ := ⟨H, ⟨hE, hC, hM, h4⟩, hR, hT, hTr, hIM, hA, hs⟩
  simp only [w_X6_image, t_isImage]
  by_cases g : 0 ≤ x1.toInt ∧ x1.toInt < 2
  · obtain ⟨k, hk, rfl⟩ := arg_in (n := 2) g
    simp only [g, and_self, if_true, z10, if_false, true_and, t_isTold hC hE]
    by_cases h : 0 < H 0
    · have hV := hE.v0 h
      have t4 : σ 55 4 = 1 := by
        rw [h4, if_neg (by omega)]
        rfl
      have hv : vp_in (nI k) 2 := vp_in_nI hk (by decide)
      have ck : (nI k).toNatClampNeg = k := nI_clamp (by omega)
      simp only [h, and_self, if_true, z10, if_false, true_and, hv, ck, t_become (N := N) (σ := σ) (c := 19 + 6 * k) (a := 33) (show 33 + 5 < 19 + 6 * k ∨ 19 + 6 * k + 5 < 33 by omega)]
      have q4 : ¬ bcs σ (19 + 6 * k) 33 55 4 = 0 := by
        rw [bcs_o (by omega), t4]
        decide
      simp only [w_X7_image, t_in01, g, and_self, if_true, z10, if_false, true_and, q4]
      have w1 := fun E => l_image25 (N := N) (Q := fun r2 υ => G 1 r2 υ) (E := E) (σ := bcs σ (19 + 6 * k) 33) hk 57 N 0 (by omega) (by omega)
      simp only [blk_0] at w1
      refine Eq.mpr (w1 _) ?_
      simp only [hv, ck, true_and, forall_eq]
      refine hG _ _ ⟨H, I0_cong (fun c j q => ?_) ⟨hE, hC, hM, h4⟩, RW_cong (fun c j q => ?_) hR, TP_cong (fun c j q => ?_) hT, TR_cong (fun c j q => ?_) hTr, fun k' hk' => ?_, AC_cong (fun c j q => ?_) hA, ?_⟩
      · rw [st_ne (by omega), blk_out (by omega), bcs_o (by omega)]
      · rw [st_ne (by omega), blk_out (by omega), bcs_o (by omega)]
      · rw [st_ne (by omega), blk_out (by omega), bcs_o (by omega)]
      · rw [st_ne (by omega), blk_out (by omega), bcs_o (by omega)]
      · by_cases e : k' = k
        · subst e
          right
          refine ⟨H, hV, CH_cong (fun d j h1 h2 => ?_) (bcs_CH (c := 19 + 6 * k') hV hC), ⟨st_eq, ?_⟩, fun i hi => ?_⟩
          · rw [st_ne (by omega), blk_out (by omega)]
          · rw [st_ne (by omega), blk_out (by omega), bcs_o (by omega), t4]
          · rw [st_ne (by omega), blk_in (by omega) (by omega), bcs_o (by omega), hM _ (by omega)]
            congr 2
            omega
        · refine IMk_cong (fun c j q => ?_) (hIM k' hk')
          rw [st_ne (by omega), blk_out (by omega), bcs_o (by omega)]
      · rw [st_ne (by omega), blk_out (by omega), bcs_o (by omega)]
      · rw [st_ne (by omega), blk_out (by omega), bcs_o (by omega), st_ne (by omega), blk_out (by omega), bcs_o (by omega), hs]
    · have q4 : σ 55 4 = 0 := by
        rw [h4, if_pos (by omega)]
        rfl
      simp only [h, and_self, if_true, z10, if_false, true_and, w_X7_image, t_in01, g, q4, hG _ _ hI]
  · simp only [g, and_self, if_true, z10, if_false, true_and, w_X7_image, t_in01, hG _ _ hI]
theorem P_restore (hN : 5000 ≤ N) (hI : Inv σ) (x1 : Int32) (hG : ∀ r τ, Inv τ → G r r τ) : w_X6_restore N σ x1 (fun r1 τ => w_X7_restore N τ x1 (fun r2 υ => G r1 r2 υ)) := by
  obtain ⟨H, ⟨hE, hC, hM, h4⟩, hR, hT, hTr, hIM, hA, hs⟩ := hI
  have hI : Inv σ := ⟨H, ⟨hE, hC, hM, h4⟩, hR, hT, hTr, hIM, hA, hs⟩
  simp only [w_X6_restore, t_isImage]
  by_cases g : 0 ≤ x1.toInt ∧ x1.toInt < 2
  · obtain ⟨k, hk, rfl⟩ := arg_in (n := 2) g
    have hv : vp_in (nI k) 2 := vp_in_nI hk (by decide)
    have ck : (nI k).toNatClampNeg = k := nI_clamp (by omega)
    simp only [g, and_self, if_true, z10, if_false, true_and, hv, ck]
    rcases hIM k hk with ⟨a, b⟩ | ⟨A, hV, b, ⟨d, d4⟩, e⟩
    · have l : ((0 : Int32) ≤ 0) = True := eq_true (by decide)
      simp only [w_X3_isTold, a, l, if_true, w_X7_restore, t_in01, g, and_self, if_true, z10, if_false, true_and, hv, ck, b, hG _ _ hI]
    · have h0 := hV.1
      rw [t_isTold b (Or.inl hV), if_pos (by omega)]
      simp only [and_self, if_true, z10, if_false, true_and, t_become (N := N) (σ := σ) (c := 33) (a := 19 + 6 * k) (show 19 + 6 * k + 5 < 33 ∨ 33 + 5 < 19 + 6 * k by omega), w_X0_clear, forall_eq]
      have q4 : ¬ st2 (bcs σ 33 (19 + 6 * k)) 45 4 0 66 k = 0 := by
        rw [st_ne (by omega), bcs_o (by omega), d]
        decide
      simp only [w_X7_restore, t_in01, g, and_self, if_true, z10, if_false, true_and, hv, ck, q4]
      have w1 := l_restore27 (N := N) (Q := fun r2 υ => G 1 r2 υ) (σ := st2 (bcs σ 33 (19 + 6 * k)) 45 4 0) hk 57 N 0 (by omega) (by omega)
      simp only [blk_0] at w1
      refine Eq.mpr w1 ?_
      obtain ⟨m, nx, W, n1, n2, n3, n4, n5, n6, n7⟩ := hA
      refine hG _ _ ⟨A, ⟨Or.inl hV, CH_cong (fun d j h1 h2 => ?_) (bcs_CH (c := 33) hV b), fun i hi => ?_, ?_⟩, RW_cong (fun c j q => ?_) hR, TP_cong (fun c j q => ?_) hT, TR_cong (fun c j q => ?_) hTr, IM_cong (fun c j q => ?_) hIM, ⟨0, nx, fun _ => A, by omega, n2, ?_, st_eq, ?_, rfl, fun j hj => absurd hj (by omega)⟩, ?_⟩
      · rw [st_ne (by omega), blk_out (by omega), st_ne (by omega)]
      · rw [st_ne (by omega), blk_in (by omega) (by omega), st_ne (by omega), bcs_o (by omega), e _ (by omega)]
        congr 2
      · rw [st_ne (by omega), blk_out (by omega), st_ne (by omega), bcs_o (by omega), d4, if_neg (by omega)]
        rfl
      · rw [st_ne (by omega), blk_out (by omega), st_ne (by omega), bcs_o (by omega)]
      · rw [st_ne (by omega), blk_out (by omega), st_ne (by omega), bcs_o (by omega)]
      · rw [st_ne (by omega), blk_out (by omega), st_ne (by omega), bcs_o (by omega)]
      · rw [st_ne (by omega), blk_out (by omega), st_ne (by omega), bcs_o (by omega)]
      · rw [st_ne (by omega), blk_out (by omega), st_eq]
        rfl
      · rw [st_ne (by omega), blk_out (by omega), st_ne (by omega), bcs_o (by omega), n5]
      · rw [st_ne (by omega), blk_out (by omega), st_ne (by omega), bcs_o (by omega), st_ne (by omega), blk_out (by omega), st_ne (by omega), bcs_o (by omega), hs]
  · simp only [g, and_self, if_true, z10, if_false, true_and, w_X7_restore, t_in01, hG _ _ hI]
end AW
