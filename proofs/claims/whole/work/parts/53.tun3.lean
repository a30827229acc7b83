section TW
variable {N : Nat} {σ : kS} {H : Nat → Nat} {Q : Int32 → kS → Prop} {E : kS → Prop} {G : Int32 → Int32 → kS → Prop}
theorem l_t274 {T : Nat → Nat} (hT : ∀ j, j < 12 → σ 64 j = nI (T j) ∧ T j ≤ 999) : ∀ (r n k v : Nat), k + r = 12 → r < n → v ≤ 999 → l_X7_tunings_274 N Q n (nI v) (nI k) σ = Q (nI (mnT T r k v)) σ := by
  intro r
  induction r with
  | zero =>
    intro n k v hk hn hv
    obtain ⟨n, rfl⟩ : ∃ j, n = j + 1 := ⟨n - 1, by omega⟩
    show b_X7_tunings_274 N Q _ (nI v) (nI k) σ = _
    unfold b_X7_tunings_274
    rw [lit_12, if_pos ((z_le (by omega) (by omega)).mpr (by omega))]
    rfl
  | succ r ih =>
    intro n k v hk hn hv
    obtain ⟨n, rfl⟩ : ∃ j, n = j + 1 := ⟨n - 1, by omega⟩
    show b_X7_tunings_274 N Q _ (nI v) (nI k) σ = _
    unfold b_X7_tunings_274
    have ek : nI k + 1 = nI (k + 1) := by rw [lit_1, nI_add]
    have hvk : vp_in (nI k) 12 := vp_in_nI (by omega) (by decide)
    have ck : (nI k).toNatClampNeg = k := nI_clamp (by omega)
    have tk := hT k (by omega)
    rw [lit_12, if_neg (fun q => absurd ((z_le (by omega) (by omega)).mp q) (by omega))]
    simp only [true_and, hvk, ck, forall_eq, ek, tk.1, z_le (show v < 2 ^ 31 by omega) (show T k < 2 ^ 31 by omega)]
    show _ = Q (nI (mnT T r (k + 1) (if v ≤ T k then v else T k))) σ
    by_cases e : v ≤ T k
    · rw [if_pos e, if_pos e]
      exact ih n (k + 1) v (by omega) (by omega) hv
    · rw [if_neg e, if_neg e]
      exact ih n (k + 1) (T k) (by omega) (by omega) tk.2
theorem l_t76 {t x : Nat} (hN : 5000 ≤ N) (hV : HV H) (ht : t ≤ 60) (hx : x ≤ 11) : ∀ (r n k g c : Nat) (T : Nat → Nat) (σ : kS), k + r = t → r < n → MH σ H → TIv (H 0) (H 1) x T g c → c + r ≤ 900 → (∀ j, j < 12 → σ 64 j = nI (T j)) → ∃ τ T' g', l_X7_tunings_76 N Q (nI t) (nI x) E n (nI k) σ = E τ ∧ (∀ c k, c ≠ 64 → c ≠ 65 → τ c k = σ c k) ∧ (∀ j, j < 12 → τ 64 j = nI (T' j)) ∧ TIv (H 0) (H 1) x T' g' (grd (H 0) (H 1) x r g c) := by
  have h0 := hV.1
  intro r
  induction r with
  | zero =>
    intro n k g c T σ hk hn hM hT hc hs
    obtain ⟨n, rfl⟩ : ∃ j, n = j + 1 := ⟨n - 1, by omega⟩
    refine ⟨σ, T, g, ?_, fun _ _ _ _ => rfl, hs, hT⟩
    show b_X7_tunings_76 N Q (nI t) (nI x) E _ (nI k) σ = _
    unfold b_X7_tunings_76
    rw [if_pos ((z_le (by omega) (by omega)).mpr (by omega))]
  | succ r ih =>
    intro n k g c T σ hk hn hM hT hc hs
    obtain ⟨n, rfl⟩ : ∃ j, n = j + 1 := ⟨n - 1, by omega⟩
    have ek : nI k + 1 = nI (k + 1) := by rw [lit_1, nI_add]
    obtain ⟨W, hW⟩ : ∃ W, W = trn (H 0) (H 1) x T (H 0) 0 (fun _ => 999) := ⟨_, rfl⟩
    obtain ⟨s1, e1⟩ : ∃ s1, s1 = blk σ 65 0 12 (tbl W) := ⟨_, rfl⟩
    obtain ⟨s2, e2⟩ : ∃ s2, s2 = blk s1 64 0 12 (fun j => s1 65 j) := ⟨_, rfl⟩
    have w1 := fun E => l_t84 (N := N) (Q := Q) (E := E) (x1 := nI t) (x2 := nI x) (x3 := nI k) (σ := σ) 12 N 0 (by omega) (by omega)
    have w2 := fun E => l_t110 (N := N) (Q := Q) (E := E) (x1 := nI t) (x3 := nI k) (σ := σ) (T := T) hM hV hx (fun j hj => ⟨hs j hj, (hT.2.2 j).1⟩) (H 0) N 0 (fun _ => 999) (by omega) (by omega) (fun _ _ => by omega)
    have w3 := fun E => l_t234 (N := N) (Q := Q) (E := E) (x1 := nI t) (x2 := nI x) (x3 := nI k) (τ := s1) 12 N 0 (by omega) (by omega)
    rw [← hW, ← e1] at w2
    simp only [blk_0] at w1 w3
    rw [← e2] at w3
    have st := TIv_step (by omega) hT (by omega)
    rw [← hW] at st
    have o1 : ∀ c k, c ≠ 64 → c ≠ 65 → s2 c k = σ c k := fun c k q1 q2 => by rw [e2, blk_out (by omega), e1, blk_out (by omega)]
    have o2 : ∀ j, j < 12 → s2 64 j = nI (W j) := fun j hj => by
      rw [e2, blk_in (by omega) (by omega), e1, blk_in (by omega) (by omega)]
      rfl
    have hM2 : MH s2 H := fun i hi => by rw [o1 _ _ (by omega) (by omega), hM i hi]
    obtain ⟨τ, T', g', i1, i2, i3, i4⟩ := ih n (k + 1) _ _ W s2 (by omega) (by omega) hM2 st (by split <;> omega) o2
    refine ⟨τ, T', g', ?_, fun c k q1 q2 => ?_, i3, ?_⟩
    · show b_X7_tunings_76 N Q (nI t) (nI x) E _ (nI k) σ = _
      unfold b_X7_tunings_76
      rw [if_neg (fun q => absurd ((z_le (by omega) (by omega)).mp q) (by omega))]
      refine (w1 _).trans ((w2 _).trans ((w3 _).trans ?_))
      simp only [forall_eq, ek]
      exact i1
    · rw [i2 _ _ q1 q2, o1 _ _ q1 q2]
    · have eg : grd (H 0) (H 1) x (r + 1) g c = grd (H 0) (H 1) x r (if (g + H 1) % H 0 ≤ x then (g + H 1) % H 0 else 0) (if (g + H 1) % H 0 ≤ x then c else c + 1) := by
        show (if (g + H 1) % H 0 ≤ x then grd (H 0) (H 1) x r ((g + H 1) % H 0) c else grd (H 0) (H 1) x r 0 (c + 1)) = _
        split <;> rfl
      rw [eg]
      exact i4
theorem P_tunings (hN : 5000 ≤ N) (hI : Inv σ) (x1 x2 : Int32) (hG : ∀ r τ, Inv τ → G r r τ) : w_X6_tunings N σ x1 x2 (fun r1 τ => w_X7_tunings N τ x1 x2 (fun r2 υ => G r1 r2 υ)) := by
  obtain ⟨H, ⟨hE, hC, hM, h4⟩, hR, hT, hTr, hIM, hA, hs⟩ := hI
  have hI : Inv σ := ⟨H, ⟨hE, hC, hM, h4⟩, hR, hT, hTr, hIM, hA, hs⟩
  simp only [w_X6_tunings, t_isTold hC hE, rngA (x := x2) (lo := 0) (hi := 11) 0 11 rfl rfl, rngB (x := x1) (lo := 1) (hi := 60) 1 60 rfl rfl]
  by_cases h : 0 < H 0
  · have hV := hE.v0 h
    have h0 := hV.1
    have h2 := hV.2.2.1
    have t4 : σ 55 4 = 1 := by
      rw [h4, if_neg (by omega)]
      rfl
    have q5 : ¬ σ 55 4 = 0 := by
      rw [t4]
      decide
    by_cases a : 1 ≤ x1.toInt ∧ x1.toInt ≤ 60
    · by_cases b : 0 ≤ x2.toInt ∧ x2.toInt ≤ 11
      · obtain ⟨t, t1, t2, rfl⟩ := arg_in2 (a := 1) (b := 60) a
        obtain ⟨x, -, y2, rfl⟩ := arg_in2 (a := 0) (b := 11) b
        have w1 := fun Q => l_greedy (N := N) (Q := Q) hC hV t2 y2 t N 0 (H 2) 0 (by omega) (by omega) h2
        simp only [h, a, b, and_self, if_true, z10, if_false, true_and, w_X2_fewestTunings, hC.2.2.1, forall_eq]
        refine Eq.mpr (w1 _) ?_
        simp only [w_X7_tunings, q5, if_false, t_in32 1 60 (show (1 : Int64).toInt = 1 by decide) (show (60 : Int64).toInt = 60 by decide), a, t_in32 0 11 (show (0 : Int64).toInt = 0 by decide) (show (11 : Int64).toInt = 11 by decide), b, and_self, if_true, z10, if_false, true_and]
        have w2 := fun Q E => l_t39 (N := N) (Q := Q) (E := E) (x1 := nI t) (x2 := nI x) hM hV 12 N 0 (by omega) (by omega)
        simp only [blk_0] at w2
        refine Eq.mpr (w2 _ _) ?_
        obtain ⟨s1, e1⟩ : ∃ s1, s1 = blk σ 64 0 12 (tbl fun j => if j = H 2 then 0 else 999) := ⟨_, rfl⟩
        rw [← e1]
        have o1 : ∀ c k, c ≠ 64 → s1 c k = σ c k := fun c k q => by rw [e1, blk_out (by omega)]
        have o2 : ∀ j, j < 12 → s1 64 j = nI (if j = H 2 then 0 else 999) := fun j hj => by
          rw [e1, blk_in (by omega) (by omega)]
          rfl
        have hM1 : MH s1 H := fun i hi => by rw [o1 _ _ (by omega), hM i hi]
        have T0 : TIv (H 0) (H 1) x (fun j => if j = H 2 then 0 else 999) (H 2) 0 := by
          refine ⟨h2, if_pos rfl, fun s => ?_⟩
          by_cases e : s = H 2
          · simp only [if_pos e]
            rw [e]
            exact ⟨by omega, by omega, fun _ n w => w, fun q => absurd q (by omega)⟩
          · simp only [if_neg e]
            exact ⟨by omega, by omega, fun q => absurd q (by omega), fun _ q => absurd q (by omega)⟩
        obtain ⟨τ, T', g', i1, i2, i3, i4⟩ := l_t76 (N := N) (Q := fun r2 υ => G (nI (grd (H 0) (H 1) x t (H 2) 0)) r2 υ) (E := fun σ_44 => l_X7_tunings_274 N (fun r2 υ => G (nI (grd (H 0) (H 1) x t (H 2) 0)) r2 υ) N 999 0 σ_44) hN hV t2 y2 t N 0 (H 2) 0 _ s1 (by omega) (by omega) hM1 T0 (by omega) o2
        refine Eq.mpr i1 ?_
        have w3 := l_t274 (N := N) (Q := fun r2 υ => G (nI (grd (H 0) (H 1) x t (H 2) 0)) r2 υ) (σ := τ) (T := T') (fun j hj => ⟨i3 j hj, (i4.2.2 j).1⟩) 12 N 0 999 (by omega) (by omega) (by omega)
        refine Eq.mpr w3 ?_
        have e9 : mnT T' 12 0 999 = grd (H 0) (H 1) x t (H 2) 0 := by
          have l1 := i4.1
          have l2 := i4.2.1
          refine Nat.le_antisymm ?_ (mnT_ge (fun s => (i4.2.2 s).2.1) 12 0 999 ?_)
          · rw [← l2]
            exact mnT_at 12 0 999 (by omega) (by omega)
          · rw [← l2]
            exact (i4.2.2 g').1
        rw [e9]
        refine hG _ _ (hI.sc (fun c k q => ?_))
        unfold scr at q
        rw [i2 _ _ (by omega) (by omega), o1 _ _ (by omega)]
      · simp only [h, a, b, and_self, if_true, z10, if_false, true_and, w_X7_tunings, q5, t_in32 1 60 (show (1 : Int64).toInt = 1 by decide) (show (60 : Int64).toInt = 60 by decide), t_in32 0 11 (show (0 : Int64).toInt = 0 by decide) (show (11 : Int64).toInt = 11 by decide), hG _ _ hI]
    · simp only [h, a, and_self, if_true, z10, if_false, true_and, w_X7_tunings, q5, t_in32 1 60 (show (1 : Int64).toInt = 1 by decide) (show (60 : Int64).toInt = 60 by decide), hG _ _ hI]
  · have q4 : σ 55 4 = 0 := by
      rw [h4, if_pos (by omega)]
      rfl
    simp only [h, and_self, if_true, z10, if_false, true_and, w_X7_tunings, q4, hG _ _ hI]
end TW
