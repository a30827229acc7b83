/-! ===== acts, one by one ===== -/
section AU
variable {N : Nat} {σ : kS} {V : Nat → Nat → Nat} {m nx : Nat} {Q : Int32 → kS → Prop} {Qv : kS → Prop} {G : Int32 → Int32 → kS → Prop}
theorem act_done {τ υ ω : kS} {A : Nat → Nat} {s p w : Nat} (hI : Inv σ) (t4 : σ 55 4 = 1) (hK : KC σ V m nx) (hA : HV A) (hr : actR s p w A (V 0)) (hw : w < 12) (h1 : ∀ c k, ¬ ((33 ≤ c ∧ c ≤ 38) ∨ (45 ≤ c ∧ c ≤ 48)) → τ c k = σ c k) (hf : ∀ c k, (45 ≤ c ∧ c ≤ 48) → τ c k = kp σ nx m (nI s) (nI p) (nI w) c k) (hC : CH τ 33 A) (n2 : ∀ c k, ¬ (c = 63 ∨ (c = 55 ∧ k = 17)) → υ c k = τ c k) (n3 : υ 55 17 = nI (min (m + 1) 24)) (n4 : ∀ j, j < min (m + 1) 24 → ∀ i, i < 57 → υ 63 (57 * (min (m + 1) 24 - 1 - j) + i) = nI (V j i)) (fi : ∀ c k, c ≠ 59 → ω c k = υ c k) (hM : MH ω A) : Inv ω := by
  refine Inv_acts (V := vps A V) (m := min (m + 1) 24) (nx := (nx + 1) % 24) hI (fun c k q => ?_) t4 (KC_cong (fun c k q => ?_) (KC_keep hK hA hC hr hw hf)) ⟨hM, ?_, fun j hj i hi => ?_⟩
  · rw [fi _ _ (by omega), n2 _ _ (by omega), h1 _ _ (by omega)]
  · rw [fi _ _ (by omega), n2 _ _ (by omega)]
  · rw [fi _ _ (by omega), n3]
  · rw [fi _ _ (by omega)]
    exact n4 j hj i hi
theorem kp_o {s p w : Int32} {c k : Nat} (h : ¬ (45 ≤ c ∧ c ≤ 48)) : kp σ nx m s p w c k = σ c k := by
  unfold kp
  repeat (first | rw [st_ne (by omega)] | rw [blk_out (by omega)])
theorem act2 {A : Nat → Nat} {v : Nat} (h : ∀ i, i ≠ 2 → A i = V 0 i) : actR 1 0 (V 0 2) A (V 0) := by
  right; left
  refine ⟨rfl, fun i hi => ?_⟩
  by_cases e : i = 2
  · rw [if_pos e, e]
  · rw [if_neg e, h i e]
theorem P_thunder (hN : 5000 ≤ N) (hI : Inv σ) (x1 : Int32) (hG : ∀ r τ, Inv τ → G r r τ) : w_X6_thunder N σ x1 (fun r1 τ => w_X7_thunder N τ x1 (fun r2 υ => G r1 r2 υ)) := by
  obtain ⟨H, ⟨hE, hC, hM, h4⟩, hR, hT, hTr, hIM, hA, hs⟩ := hI
  have hI : Inv σ := ⟨H, ⟨hE, hC, hM, h4⟩, hR, hT, hTr, hIM, hA, hs⟩
  simp only [w_X6_thunder, t_isTold hC hE, rngA (x := x1) (lo := 1) (hi := 11) 1 11 rfl rfl]
  by_cases h : 0 < H 0
  · have hV := hE.v0 h
    have t4 : σ 55 4 = 1 := by
      rw [h4, if_neg (by omega)]
      rfl
    by_cases g : 1 ≤ x1.toInt ∧ x1.toInt ≤ 11
    · obtain ⟨x, y1, y2, rfl⟩ := arg_in2 (a := 1) (b := 11) g
      obtain ⟨m, nx, V, hV0, hK, hKM⟩ := Inv_K hV hC hM hA
      subst hV0
      have b0 := hV.1
      have b2 := hV.2.2.1
      have e7 : ∀ s p w, kp σ nx m s p w 33 7 = nI (V 0 2) := fun s p w => (kp_o (by omega)).trans hC.2.2.1
      have e5 : ∀ s p w, kp σ nx m s p w 33 5 = nI (V 0 0) := fun s p w => (kp_o (by omega)).trans hC.1
      simp only [h, g, and_self, if_true, z10, if_false, true_and, hC.2.2.1, t_keep hK, e7, t_around (e5 _ _ _) h (by omega), nI_add, fov_nat (show V 0 2 + x < 2 ^ 31 by omega), forall_eq, st_eq]
      have q4 : st2 (kp σ nx m 1 0 (nI (V 0 2))) 33 7 (nI ((V 0 2 + x) % V 0 0)) 55 4 = 1 := by rw [st_ne (by omega), kp_o (by omega), t4]
      obtain ⟨υ, n1, n2, n3, n4⟩ := t_note (N := N) hN (KM_cong (τ := st2 (kp σ nx m 1 0 (nI (V 0 2))) 33 7 (nI ((V 0 2 + x) % V 0 0))) (fun c k q => by rw [st_ne (by omega), kp_o (by omega)]) hKM) hK.2.2.1
      have r0 : υ 59 0 = nI (V 0 0) := by rw [n2 _ _ (by omega), st_ne (by omega), kp_o (by omega), hM _ (by omega)]
      have r2 : υ 59 2 = nI (V 0 2) := by rw [n2 _ _ (by omega), st_ne (by omega), kp_o (by omega), hM _ (by omega)]
      simp only [w_X7_thunder, q4, and_self, if_true, z10, if_false, true_and, t_in32 1 11 (show (1 : Int64).toInt = 1 by decide) (show (11 : Int64).toInt = 11 by decide), g, n1, cl0, vq0, cl1, vq1, cl2, vq2, cl3, vq3, cl4, vq4, cl5, vq5, r2, t_over r0 h (by omega), nI_add, fov_nat (show V 0 2 + x < 2 ^ 31 by omega), forall_eq, st_eq]
      have lt : (V 0 2 + x) % V 0 0 < V 0 0 := Nat.mod_lt _ h
      refine hG _ _ (act_done (s := 1) (p := 0) (w := V 0 2) hI t4 hK (HV_up2 hV lt) (act2 (v := 0) fun i hi => upH_ne hi) (by omega) (fun c k q => ?_) (fun c k q => ?_) (CH_up2 (CH_cong (fun d k h1 h2 => kp_o (by omega)) hC)) n2 n3 n4 (fun c k q => st_ne (by omega)) (MH_up (fun i hi => ?_)))
      · rw [st_ne (by omega), kp_o (by omega)]
      · rw [st_ne (by omega)]
        rfl
      · rw [n2 _ _ (by omega), st_ne (by omega), kp_o (by omega), hM _ hi]
    · have q4 : ¬ σ 55 4 = 0 := by rw [t4]; decide
      simp only [h, g, and_self, if_true, z10, if_false, true_and, w_X7_thunder, q4, t_in32 1 11 (show (1 : Int64).toInt = 1 by decide) (show (11 : Int64).toInt = 11 by decide), hG _ _ hI]
  · have q4 : σ 55 4 = 0 := by
      rw [h4, if_pos (by omega)]
      rfl
    simp only [h, and_self, if_true, z10, if_false, true_and, w_X7_thunder, q4, hG _ _ hI]
theorem P_tune (hN : 5000 ≤ N) (hI : Inv σ) (hG : ∀ r τ, Inv τ → G r r τ) : w_X6_tune N σ (fun r1 τ => w_X7_tune N τ (fun r2 υ => G r1 r2 υ)) := by
  obtain ⟨H, ⟨hE, hC, hM, h4⟩, hR, hT, hTr, hIM, hA, hs⟩ := hI
  have hI : Inv σ := ⟨H, ⟨hE, hC, hM, h4⟩, hR, hT, hTr, hIM, hA, hs⟩
  simp only [w_X6_tune, t_isTold hC hE]
  by_cases h : 0 < H 0
  · have hV := hE.v0 h
    have t4 : σ 55 4 = 1 := by
      rw [h4, if_neg (by omega)]
      rfl
    obtain ⟨m, nx, V, hV0, hK, hKM⟩ := Inv_K hV hC hM hA
    subst hV0
    have b0 := hV.1
    have b2 := hV.2.2.1
    simp only [h, and_self, if_true, z10, if_false, true_and, hC.2.2.1, forall_eq, t_keep hK]
    have q4 : st2 (kp σ nx m 1 0 (nI (V 0 2))) 33 7 0 55 4 = 1 := by rw [st_ne (by omega), kp_o (by omega), t4]
    obtain ⟨υ, n1, n2, n3, n4⟩ := t_note (N := N) hN (KM_cong (τ := st2 (kp σ nx m 1 0 (nI (V 0 2))) 33 7 0) (fun c k q => by rw [st_ne (by omega), kp_o (by omega)]) hKM) hK.2.2.1
    have r2 : υ 59 2 = nI (V 0 2) := by rw [n2 _ _ (by omega), st_ne (by omega), kp_o (by omega), hM _ (by omega)]
    simp only [w_X7_tune, q4, and_self, if_true, z10, if_false, true_and, n1, cl0, vq0, cl1, vq1, cl2, vq2, cl3, vq3, cl4, vq4, cl5, vq5, r2, forall_eq]
    refine hG _ _ (act_done (s := 1) (p := 0) (w := V 0 2) hI t4 hK (HV_up2 (v := 0) hV h) (act2 (v := 0) fun i hi => upH_ne hi) (by omega) (fun c k q => ?_) (fun c k q => ?_) (CH_up2 (v := 0) (CH_cong (fun d k h1 h2 => kp_o (by omega)) hC)) n2 n3 n4 (fun c k q => st_ne (by omega)) (MH_up (v := 0) (fun i hi => ?_)))
    · rw [st_ne (by omega), kp_o (by omega)]
    · rw [st_ne (by omega)]
      rfl
    · rw [n2 _ _ (by omega), st_ne (by omega), kp_o (by omega), hM _ hi]
  · have q4 : σ 55 4 = 0 := by
      rw [h4, if_pos (by omega)]
      rfl
    simp only [h, and_self, if_true, z10, if_false, true_and, w_X7_tune, q4, hG _ _ hI]
theorem P_learn (hN : 5000 ≤ N) (hI : Inv σ) (x1 : Int32) (hG : ∀ r τ, Inv τ → G r r τ) : w_X6_learn N σ x1 (fun r1 τ => w_X7_learn N τ x1 (fun r2 υ => G r1 r2 υ)) := by
  obtain ⟨H, ⟨hE, hC, hM, h4⟩, hR, hT, hTr, hIM, hA, hs⟩ := hI
  have hI : Inv σ := ⟨H, ⟨hE, hC, hM, h4⟩, hR, hT, hTr, hIM, hA, hs⟩
  simp only [w_X6_learn, t_hasPupil hC hE]
  by_cases h : 0 ≤ x1.toInt ∧ x1.toInt < H 4
  · obtain ⟨q, hq, rfl⟩ := arg_in h
    have hV := hE.v4 hq
    have b0 := hV.1
    have t4 : σ 55 4 = 1 := by
      rw [h4, if_neg (by omega)]
      rfl
    obtain ⟨m, nx, V, hV0, hK, hKM⟩ := Inv_K hV hC hM hA
    subst hV0
    have b2 := hV.2.2.1
    have b5 := hV.2.2.2.2.1
    obtain ⟨-, b7, -⟩ := hV.2.2.2.2.2.2.2.2 q hq
    have hvq : vp_in (nI q) 5 := vp_in_nI (by omega) (by decide)
    have cq : (nI q).toNatClampNeg = q := nI_clamp (by omega)
    have e47 : (47 : Int32) + nI q = nI (47 + q) := by rw [lit_47, nI_add]
    have hv47 : vp_in (nI (47 + q)) 57 := vp_in_nI (by omega) (by decide)
    have c47 : (nI (47 + q)).toNatClampNeg = 47 + q := nI_clamp (by omega)
    have d7 : σ 37 q = nI (V 0 (47 + q)) := (hC.2.2.2.2.2.2.2.2 q hq).2.1
    have e7 : ∀ s p w, kp σ nx m s p w 33 7 = nI (V 0 2) := fun s p w => (kp_o (by omega)).trans hC.2.2.1
    simp only [h, and_self, if_true, z10, if_false, true_and, hvq, cq, d7, forall_eq, t_keep hK, e7]
    obtain ⟨υ, n1, n2, n3, n4⟩ := t_note (N := N) hN (KM_cong (τ := st2 (kp σ nx m 2 (nI q) (nI (V 0 (47 + q)))) 37 q (nI (V 0 2))) (fun c k q => by rw [st_ne (by omega), kp_o (by omega)]) hKM) hK.2.2.1
    have hM1 : MH (st2 (kp σ nx m 2 (nI q) (nI (V 0 (47 + q)))) 37 q (nI (V 0 2))) (V 0) := fun i hi => by rw [st_ne (by omega), kp_o (by omega), hM _ hi]
    have r2 : υ 59 2 = nI (V 0 2) := by rw [n2 _ _ (by omega), hM1 _ (by omega)]
    have r7 : υ 59 (47 + q) = nI (V 0 (47 + q)) := by rw [n2 _ _ (by omega), hM1 _ (by omega)]
    simp only [w_X7_learn, t_isPupil hM1 hE, h, and_self, if_true, z10, if_false, true_and, n1, e47, hv47, c47, cl0, vq0, cl1, vq1, cl2, vq2, cl3, vq3, cl4, vq4, cl5, vq5, r2, r7, forall_eq]
    refine hG _ _ (act_done (s := 2) (p := q) (w := V 0 (47 + q)) hI t4 hK (HV_up47 hV hq b2) (Or.inl ⟨rfl, ?_, fun i hi => ?_⟩) (by omega) (fun c k q => ?_) (fun c k q => ?_) (CH_up47 hV (CH_cong (fun d k h1 h2 => kp_o (by omega)) hC) hq) n2 n3 n4 (fun c k q => st_ne (by omega)) (MH_up (fun i hi => ?_)))
    · rw [upH_ne (by omega)]
      exact hq
    · by_cases e : i = 47 + q
      · rw [if_pos e, e]
      · rw [if_neg e, upH_ne e]
    · rw [st_ne (by omega), kp_o (by omega)]
    · rw [st_ne (by omega)]
      rfl
    · rw [n2 _ _ (by omega), hM1 _ hi]
  · simp only [h, and_self, if_true, z10, if_false, true_and, w_X7_learn, t_isPupil hM hE, hG _ _ hI]
end AU
