/-! ===== hall ===== -/
section HF
variable {N : Nat} {σ : kS} {Q : Int32 → kS → Prop} {G : Int32 → Int32 → kS → Prop}
theorem P_hall (hN : 5000 ≤ N) (hI : Inv σ) (hG : ∀ r τ, Inv τ → G r r τ) : w_X6_hall N σ (fun r1 τ => w_X7_hall N τ (fun r2 υ => G r1 r2 υ)) := by
  obtain ⟨H, ⟨hE, hC, hM, h4⟩, hRW, hT, hTr, hIM, hA, hs⟩ := hI
  have hI : Inv σ := ⟨H, ⟨hE, hC, hM, h4⟩, hRW, hT, hTr, hIM, hA, hs⟩
  obtain ⟨tq, n, hn, h3, h8, hb⟩ := id hT
  obtain ⟨t, ht⟩ : ∃ t : Nat → Nat, t = fun i => (σ 32 i).toNatClampNeg := ⟨_, rfl⟩
  have tb : ∀ i, i < n → σ 32 i = nI (t i) ∧ σ 61 i = nI (t i) ∧ t i < 256 := fun i hi => by
    obtain ⟨b, b1, b2, b3⟩ := hb i hi
    have e : t i = b := by
      rw [ht]
      show (σ 32 i).toNatClampNeg = b
      rw [b2, nI_clamp (by omega)]
    rw [e]
    exact ⟨b2, b3, b1⟩
  have hBc : BTc σ t n := ⟨hn, h3, fun i hi => ⟨(tb i hi).1, (tb i hi).2.2⟩⟩
  have hBr : BTr σ t n := ⟨hn, h8, fun i hi => (tb i hi).2⟩
  unfold w_X6_hall
  refine t_readInto hN hBc ⟨fun e υ uS uC uV => ?_, fun e υ uF u4 u5 => ?_⟩
  · obtain ⟨A, hAd⟩ : ∃ A, A = (prs t n).2.2 := ⟨_, rfl⟩
    rw [← hAd] at uC uV
    have v0 := uV.1
    unfold w_X5_clear
    simp only [forall_eq, z10, if_false]
    obtain ⟨τ1, hτ1⟩ : ∃ τ1, τ1 = st2 υ 31 3 0 := ⟨_, rfl⟩
    rw [← hτ1]
    have C1 : CH τ1 39 A := CH_cong (fun d k h1 h2 => by rw [hτ1, st2_app, if_neg (by omega)]) uC
    simp only [t_become (N := N) (σ := τ1) (c := 33) (a := 39) (show 39 + 5 < 33 ∨ 33 + 5 < 39 by omega), w_X0_clear, forall_eq]
    obtain ⟨τ2, hτ2⟩ : ∃ τ2, τ2 = st2 (bcs τ1 33 39) 45 4 0 := ⟨_, rfl⟩
    rw [← hτ2]
    have C2 : CH τ2 33 A := CH_cong (fun d k h1 h2 => by rw [hτ2, st2_app, if_neg (by omega)]) (bcs_CH (c := 33) uV C1)
    have F2 : ∀ c j, ¬ scr c j → ¬ (c = 31 ∧ j = 3) → ¬ (33 ≤ c ∧ c ≤ 38) → ¬ (c = 45 ∧ j = 4) → τ2 c j = σ c j := fun c j q1 q2 q3 q4 => by
      rw [hτ2, st2_app, if_neg q4, bcs_o (by omega), hτ1, st2_app, if_neg q2, uS c j q1]
    have B2 : BTr τ2 t n := by
      refine ⟨hn, ?_, fun i hi => ?_⟩
      · rw [F2 55 8 (by unfold scr; omega) (by omega) (by omega) (by omega), h8]
      · rw [F2 61 i (by unfold scr; omega) (by omega) (by omega) (by omega)]
        exact hBr.2.2 i hi
    have a10 : τ2 33 10 = nI (A 4) := C2.2.2.2.2.1
    unfold w_X7_hall
    refine t_readHall hN B2 ⟨fun _ ω wS wM => ?_, fun e' => absurd e e'⟩
    rw [← hAd] at wM
    simp only [forall_eq, z10, if_false]
    have w1 := fun E => l_hall32 (N := N) (Q := fun r2 υ => G (τ2 33 10) r2 υ) (E := E) (σ := st2 ω 55 8 0) 57 N 0 (by omega) (by omega)
    simp only [blk_0] at w1
    refine Eq.mpr (w1 _) ?_
    obtain ⟨ρ, hρ⟩ : ∃ ρ, ρ = st2 (st2 (blk (st2 ω 55 8 0) 59 0 57 (fun j => st2 ω 55 8 0 62 j)) 55 4 1) 55 17 0 := ⟨_, rfl⟩
    try simp only [forall_eq]
    rw [← hρ]
    have M : MH ρ A := fun i hi => by
      rw [hρ, st2_app, if_neg (by omega), st2_app, if_neg (by omega), blk_in (by omega) (by omega), Nat.sub_zero, st2_app, if_neg (by omega), wM i hi]
    have F : ∀ c j, ¬ scr c j → ¬ (c = 31 ∧ j = 3) → ¬ (33 ≤ c ∧ c ≤ 38) → ¬ (c = 45 ∧ j = 4) → c ≠ 59 → ¬ (c = 55 ∧ (j = 4 ∨ j = 8 ∨ j = 17)) → ρ c j = σ c j := fun c j q1 q2 q3 q4 q5 q6 => by
      rw [hρ, st2_app, if_neg (by omega), st2_app, if_neg (by omega), blk_out (by omega), st2_app, if_neg (by omega), wS c j q1, F2 c j q1 q2 q3 q4]
    have g4 : ρ 55 4 = 1 := by rw [hρ, st2_app, if_neg (by omega), st2_app, if_pos ⟨rfl, rfl⟩]
    refine ⟨vp_in_nI (n := 4) (by decide) (by decide), ?_⟩
    rw [cl4, M 4 (by omega), a10]
    obtain ⟨m, nx, W, n1, n2, n3, n4, n5, n6, n7⟩ := hA
    refine hG _ _ ⟨A, ⟨Or.inl uV, CH_cong (fun d j h1 h2 => ?_) C2, M, ?_⟩, RW_cong (fun c j q => F c j ?_ ?_ ?_ ?_ ?_ ?_) hRW, ⟨?_, 0, by omega, ?_, ?_, fun i hi => by omega⟩, TR_cong (fun c j q => F c j ?_ ?_ ?_ ?_ ?_ ?_) hTr, fun k hk => ?_, ⟨0, nx, fun _ => A, by omega, n2, ?_, ?_, ?_, rfl, fun j hj => absurd hj (by omega)⟩, ?_⟩
    · rw [hρ, st2_app, if_neg (by omega), st2_app, if_neg (by omega), blk_out (by omega), st2_app, if_neg (by omega), wS d j (by unfold scr; omega)]
    · rw [g4, if_neg (by omega)]
      rfl
    · unfold scr; omega
    · omega
    · omega
    · omega
    · omega
    · omega
    · rw [F 31 5 (by unfold scr; omega) (by omega) (by omega) (by omega) (by omega) (by omega), F 55 9 (by unfold scr; omega) (by omega) (by omega) (by omega) (by omega) (by omega), tq]
    · rw [hρ, st2_app, if_neg (by omega), st2_app, if_neg (by omega), blk_out (by omega), st2_app, if_neg (by omega), wS 31 3 (by unfold scr; omega), hτ2, st2_app, if_neg (by omega), bcs_o (by omega), hτ1, st2_app, if_pos ⟨rfl, rfl⟩]
      rfl
    · rw [hρ, st2_app, if_neg (by omega), st2_app, if_neg (by omega), blk_out (by omega), st2_app, if_pos ⟨rfl, rfl⟩]
      rfl
    · unfold scr; omega
    · omega
    · omega
    · omega
    · omega
    · omega
    · rcases hIM k hk with ⟨a, b⟩ | ⟨B, a, b, d, e⟩
      · left
        rw [F _ _ (by unfold scr; omega) (by omega) (by omega) (by omega) (by omega) (by omega), F _ _ (by unfold scr; omega) (by omega) (by omega) (by omega) (by omega) (by omega)]
        exact ⟨a, b⟩
      · right
        refine ⟨B, a, CH_cong (fun d k h1 h2 => F d k (by unfold scr; omega) (by omega) (by omega) (by omega) (by omega) (by omega)) b, ⟨?_, g4⟩, fun i hi => ?_⟩
        · rw [F _ _ (by unfold scr; omega) (by omega) (by omega) (by omega) (by omega) (by omega), d.1]
        · rw [F _ _ (by unfold scr; omega) (by omega) (by omega) (by omega) (by omega) (by omega), e i hi]
    · rw [hρ, st2_app, if_neg (by omega), st2_app, if_neg (by omega), blk_out (by omega), st2_app, if_neg (by omega), wS 45 4 (by unfold scr; omega), hτ2, st2_app, if_pos ⟨rfl, rfl⟩]
      rfl
    · rw [hρ, st2_app, if_pos ⟨rfl, rfl⟩]
      rfl
    · rw [F 45 3 (by unfold scr; omega) (by omega) (by omega) (by omega) (by omega) (by omega), n5]
    · rw [F 55 3 (by unfold scr; omega) (by omega) (by omega) (by omega) (by omega) (by omega), F 0 8 (by unfold scr; omega) (by omega) (by omega) (by omega) (by omega) (by omega), hs]
  · unfold w_X5_clear
    simp only [forall_eq, if_true]
    obtain ⟨τ1, hτ1⟩ : ∃ τ1, τ1 = st2 υ 31 3 0 := ⟨_, rfl⟩
    rw [← hτ1]
    have F2 : ∀ c j, ¬ scr c j → ¬ (c = 31 ∧ (j = 3 ∨ j = 5)) → τ1 c j = σ c j := fun c j q1 q2 => by
      rw [hτ1, st2_app, if_neg (by omega), uF c j q1 (by omega)]
    have B2 : BTr τ1 t n := by
      refine ⟨hn, ?_, fun i hi => ?_⟩
      · rw [F2 55 8 (by unfold scr; omega) (by omega), h8]
      · rw [F2 61 i (by unfold scr; omega) (by omega)]
        exact hBr.2.2 i hi
    have a4 : τ1 31 4 = nI (prs t n).2.1 := by rw [hτ1, st2_app, if_neg (by omega), u4]
    unfold w_X7_hall
    refine t_readHall hN B2 ⟨fun e' => absurd e' e, fun _ ω wS w13 w14 => ?_⟩
    simp only [forall_eq, if_true]
    obtain ⟨ρ, hρ⟩ : ∃ ρ, ρ = st2 (st2 ω 55 8 0) 55 9 (st2 ω 55 8 0 55 14) := ⟨_, rfl⟩
    rw [← hρ]
    have F : ∀ c j, ¬ scr c j → ¬ (c = 31 ∧ (j = 3 ∨ j = 5)) → ¬ (c = 55 ∧ (j = 8 ∨ j = 9)) → ρ c j = σ c j := fun c j q1 q2 q3 => by
      rw [hρ, st2_app, if_neg (by omega), st2_app, if_neg (by omega), wS c j q1, F2 c j q1 q2]
    have g13 : ρ 55 13 = nI (prs t n).2.1 := by rw [hρ, st2_app, if_neg (by omega), st2_app, if_neg (by omega), w13]
    rw [a4, g13]
    refine hG _ _ ⟨H, I0_cong (fun c j q => F c j ?_ ?_ ?_) ⟨hE, hC, hM, h4⟩, RW_cong (fun c j q => F c j ?_ ?_ ?_) hRW, ⟨?_, 0, by omega, ?_, ?_, fun i hi => by omega⟩, TR_cong (fun c j q => F c j ?_ ?_ ?_) hTr, IM_cong (fun c j q => F c j ?_ ?_ ?_) hIM, AC_cong (fun c j q => F c j ?_ ?_ ?_) hA, ?_⟩
    · unfold scr; omega
    · omega
    · omega
    · unfold scr; omega
    · omega
    · omega
    · have x5 : ρ 31 5 = nI (prs t n).1 := by rw [hρ, st2_app, if_neg (by omega), st2_app, if_neg (by omega), wS 31 5 (by unfold scr; omega), hτ1, st2_app, if_neg (by omega), u5]
      have x9 : ρ 55 9 = nI (prs t n).1 := by rw [hρ, st2_app, if_pos ⟨rfl, rfl⟩, st2_app, if_neg (by omega), w14]
      rw [x5, x9]
    · rw [hρ, st2_app, if_neg (by omega), st2_app, if_neg (by omega), wS 31 3 (by unfold scr; omega), hτ1, st2_app, if_pos ⟨rfl, rfl⟩]
      rfl
    · rw [hρ, st2_app, if_neg (by omega), st2_app, if_pos ⟨rfl, rfl⟩]
      rfl
    · unfold scr; omega
    · omega
    · omega
    · unfold scr; omega
    · omega
    · omega
    · unfold scr; omega
    · omega
    · omega
    · rw [F 55 3 (by unfold scr; omega) (by omega) (by omega), F 0 8 (by unfold scr; omega) (by omega) (by omega), hs]
end HF
