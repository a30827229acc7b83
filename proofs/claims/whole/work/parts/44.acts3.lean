/-! ===== nights and undo ===== -/
def nHn (H : Nat → Nat) : Nat → Nat := upH (upH H 5 (H 5 + 1)) 2 (sft H 1)
def nVr : Nat → (Nat → Nat → Nat) → Nat → Nat → Nat
  | 0, V => V
  | r + 1, V => nVr r (vps (nHn (V 0)) V)
def nmr : Nat → Nat → Nat
  | 0, m => m
  | r + 1, m => nmr r (min (m + 1) 24)
theorem upH_comm {H : Nat → Nat} {a b v w : Nat} (h : a ≠ b) : upH (upH H a v) b w = upH (upH H b w) a v := by
  funext i
  by_cases e : i = a
  · subst e
    rw [upH_ne h, upH_eq, upH_eq]
  · rw [upH_ne (H := upH H b w) e]
    by_cases e' : i = b
    · subst e'
      rw [upH_eq, upH_eq]
    · rw [upH_ne e', upH_ne e', upH_ne e]
theorem CH_H {σ : kS} {c : Nat} {H H' : Nat → Nat} (hV : HV H) (e : ∀ i, i < 57 → H' i = H i) (h : CH σ c H) : CH σ c H' := by
  obtain ⟨a0, a1, a2, a3, a4, a5, a6, a7, a8⟩ := h
  have h3 := hV.2.2.2.1
  have h4 := hV.2.2.2.2.1
  unfold CH
  rw [e 0 (by omega), e 1 (by omega), e 2 (by omega), e 3 (by omega), e 4 (by omega), e 5 (by omega)]
  refine ⟨a0, a1, a2, a3, a4, a5, fun p hp => ?_, fun p k hp hk => ?_, fun q hq => ?_⟩
  · rw [e _ (by omega)]
    exact a6 p hp
  · rw [e _ (by omega)] at hk
    have := (hV.2.2.2.2.2.2.1 p hp).2
    rw [e _ (by omega)]
    exact a7 p k hp hk
  · rw [e _ (by omega), e _ (by omega), e _ (by omega)]
    exact a8 q hq
section AV
variable {N : Nat} {σ : kS} {V : Nat → Nat → Nat} {m nx : Nat} {Q : Int32 → kS → Prop} {Qv : kS → Prop} {G : Int32 → Int32 → kS → Prop}
theorem nHn_HV {H : Nat → Nat} (h : HV H) (h5 : H 5 + 1 ≤ 999) : HV (nHn H) := HV_up2 (HV_up5 h h5) (sft_lt h 1)
theorem l_nights6 {x : Nat} (hx : x ≤ 24) : ∀ (r n k : Nat) (σ : kS) (V : Nat → Nat → Nat) (m nx : Nat), k + r = x → r < n → KC σ V m nx → V 0 5 + r ≤ 999 → ∃ τ nx', l_X6_nights_47 N Q (nI x) n (nI k) σ = Q (nI (nVr r V 0 2)) τ ∧ KC τ (nVr r V) (nmr r m) nx' ∧ ∀ c k, ¬ ((33 ≤ c ∧ c ≤ 38) ∨ (45 ≤ c ∧ c ≤ 48)) → τ c k = σ c k := by
  intro r
  induction r with
  | zero =>
    intro n k σ V m nx hk hn hK h5
    obtain ⟨n, rfl⟩ : ∃ j, n = j + 1 := ⟨n - 1, by omega⟩
    refine ⟨σ, nx, ?_, hK, fun c k _ => rfl⟩
    show b_X6_nights_47 N Q (nI x) _ (nI k) σ = _
    unfold b_X6_nights_47
    rw [if_pos ((z_le (by omega) (by omega)).mpr (by omega)), hK.1.2.2.1]
    rfl
  | succ r ih =>
    intro n k σ V m nx hk hn hK h5
    obtain ⟨n, rfl⟩ : ∃ j, n = j + 1 := ⟨n - 1, by omega⟩
    have hV := hK.2.1
    have b0 := hV.1
    have b2 := hV.2.2.1
    have hA : HV (nHn (V 0)) := nHn_HV hV (by omega)
    have hC8 : CH (st2 (kp σ nx m 0 0 (nI (V 0 2))) 33 8 (nI (V 0 5 + 1))) 33 (upH (V 0) 5 (V 0 5 + 1)) := CH_up5 (CH_cong (fun d k h1 h2 => kp_o (by omega)) hK.1)
    have hA5 : nHn (V 0) 5 = V 0 5 + 1 := rfl
    have hK' := KC_keep (τ := st2 (st2 (kp σ nx m 0 0 (nI (V 0 2))) 33 8 (nI (V 0 5 + 1))) 33 7 (nI (sft (V 0) 1))) (s := 0) (p := 0) (w := V 0 2) hK hA (CH_up2 hC8) (Or.inr (Or.inr ⟨rfl, by omega, fun i hi => by
      by_cases e : i = 2
      · rw [if_pos e, e]
      · rw [if_neg e]
        by_cases e' : i = 5
        · rw [if_pos e', hA5, e']
          omega
        · rw [if_neg e']
          unfold nHn
          rw [upH_ne e, upH_ne e']⟩)) (by omega) (fun c k q => by
      rw [st_ne (by omega), st_ne (by omega)]
      rfl)
    obtain ⟨τ, nx', i1, i2, i3⟩ := ih n (k + 1) _ _ _ _ (by omega) (by omega) hK' (show nHn (V 0) 5 + r ≤ 999 by omega)
    refine ⟨τ, nx', ?_, i2, fun c k q => ?_⟩
    · show b_X6_nights_47 N Q (nI x) _ (nI k) σ = _
      unfold b_X6_nights_47
      have e8 : kp σ nx m 0 0 (nI (V 0 2)) 33 8 = nI (V 0 5) := (kp_o (by omega)).trans hK.1.2.2.2.2.2.1
      rw [if_neg (fun q => absurd ((z_le (by omega) (by omega)).mp q) (by omega)), hK.1.2.2.1, t_keep hK, e8]
      simp only [forall_eq, lit_1, nI_add]
      rw [t_shiftBehind hC8 (HV_up5 hV (by omega)) (by omega)]
      exact i1
    · rw [i3 _ _ q, st_ne (by omega), st_ne (by omega), kp_o (by omega)]
theorem l_nights7 {x : Nat} (hN : 5000 ≤ N) (hx : x ≤ 24) : ∀ (r n k : Nat) (σ : kS) (V : Nat → Nat → Nat) (m : Nat), k + r = x → r < n → KM σ V m → m ≤ 24 → HV (V 0) → V 0 5 + r ≤ 999 → ∃ τ, l_X7_nights_44 N Q (nI x) n (nI k) σ = Q (nI (nVr r V 0 2)) τ ∧ KM τ (nVr r V) (nmr r m) ∧ ∀ c k, ¬ (c = 59 ∨ c = 63 ∨ (c = 55 ∧ k = 17)) → τ c k = σ c k := by
  intro r
  induction r with
  | zero =>
    intro n k σ V m hk hn hK hm hV h5
    obtain ⟨n, rfl⟩ : ∃ j, n = j + 1 := ⟨n - 1, by omega⟩
    refine ⟨σ, ?_, hK, fun c k _ => rfl⟩
    show b_X7_nights_44 N Q (nI x) _ (nI k) σ = _
    unfold b_X7_nights_44
    rw [if_pos ((z_le (by omega) (by omega)).mpr (by omega))]
    simp only [cl0, vq0, cl1, vq1, cl2, vq2, cl3, vq3, cl4, vq4, cl5, vq5, true_and, hK.1 2 (by omega)]
    rfl
  | succ r ih =>
    intro n k σ V m hk hn hK hm hV h5
    obtain ⟨n, rfl⟩ : ∃ j, n = j + 1 := ⟨n - 1, by omega⟩
    have b0 := hV.1
    have b2 := hV.2.2.1
    have hA : HV (nHn (V 0)) := nHn_HV hV (by omega)
    obtain ⟨υ, n1, n2, n3, n4⟩ := t_note (N := N) hN hK hm
    have hMu : MH υ (V 0) := fun i hi => by rw [n2 _ _ (by omega), hK.1 i hi]
    have hM2 : MH (st2 (st2 υ 59 2 (nI (sft (V 0) 1))) 59 5 (nI (V 0 5 + 1))) (nHn (V 0)) := by
      have := MH_up (a := 5) (v := V 0 5 + 1) (MH_up (a := 2) (v := sft (V 0) 1) hMu)
      rw [upH_comm (by omega)] at this
      exact this
    have hK' : KM (st2 (st2 υ 59 2 (nI (sft (V 0) 1))) 59 5 (nI (V 0 5 + 1))) (vps (nHn (V 0)) V) (min (m + 1) 24) := by
      refine ⟨hM2, ?_, fun j hj i hi => ?_⟩
      · rw [st_ne (by omega), st_ne (by omega), n3]
      · rw [st_ne (by omega), st_ne (by omega)]
        exact n4 j hj i hi
    obtain ⟨τ, i1, i2, i3⟩ := ih n (k + 1) _ _ _ (by omega) (by omega) hK' (by omega) hA (show nHn (V 0) 5 + r ≤ 999 by
      have hA5 : nHn (V 0) 5 = V 0 5 + 1 := rfl
      omega)
    refine ⟨τ, ?_, i2, fun c k q => ?_⟩
    · show b_X7_nights_44 N Q (nI x) _ (nI k) σ = _
      unfold b_X7_nights_44
      rw [if_neg (fun q => absurd ((z_le (by omega) (by omega)).mp q) (by omega)), n1]
      have e5 : st2 υ 59 2 (nI (sft (V 0) 1)) 59 5 = nI (V 0 5) := by rw [st_ne (by omega), hMu _ (by omega)]
      have ek : nI k + 1 = nI (k + 1) := by rw [lit_1, nI_add]
      have e6 : nI (V 0 5) + 1 = nI (V 0 5 + 1) := by rw [lit_1, nI_add]
      have es : ∀ Q, w_X7_shiftIn N υ 1 Q = Q (nI (sft (V 0) 1)) υ := fun Q => t_shiftIn (n := 1) hMu hV (by omega)
      rw [es]
      simp only [cl0, vq0, cl1, vq1, cl2, vq2, cl3, vq3, cl4, vq4, cl5, vq5, true_and, forall_eq, e5, ek, e6]
      exact i1
    · rw [i3 _ _ q, st_ne (by omega), st_ne (by omega), n2 _ _ (by omega)]
theorem P_nights (hN : 5000 ≤ N) (hI : Inv σ) (x1 : Int32) (hG : ∀ r τ, Inv τ → G r r τ) : w_X6_nights N σ x1 (fun r1 τ => w_X7_nights N τ x1 (fun r2 υ => G r1 r2 υ)) := by
  obtain ⟨H, ⟨hE, hC, hM, h4⟩, hR, hT, hTr, hIM, hA, hs⟩ := hI
  have hI : Inv σ := ⟨H, ⟨hE, hC, hM, h4⟩, hR, hT, hTr, hIM, hA, hs⟩
  simp only [w_X6_nights, t_isTold hC hE, rngA (x := x1) (lo := 1) (hi := 24) 1 24 rfl rfl]
  by_cases h : 0 < H 0
  · have hV := hE.v0 h
    have t4 : σ 55 4 = 1 := by
      rw [h4, if_neg (by omega)]
      rfl
    have q4 : ¬ σ 55 4 = 0 := by rw [t4]; decide
    by_cases g : 1 ≤ x1.toInt ∧ x1.toInt ≤ 24
    · obtain ⟨x, y1, y2, rfl⟩ := arg_in2 (a := 1) (b := 24) g
      have b5 := hV.2.2.2.2.2.1
      by_cases l : H 5 + x ≤ 999
      · obtain ⟨m, nx, V, hV0, hK, hKM⟩ := Inv_K hV hC hM hA
        subst hV0
        obtain ⟨τ, nx', i1, i2, i3⟩ := l_nights6 (N := N) (Q := fun r1 τ => w_X7_nights N τ (nI x) (fun r2 υ => G r1 r2 υ)) y2 x N 0 σ V m nx (by omega) (by omega) hK (by omega)
        have l' : nI (V 0 5) + nI x ≤ (999 : Int32) := by
          rw [nI_add, lit_999, z_le (by omega) (by omega)]
          exact l
        simp only [h, g, and_self, if_true, z10, if_false, true_and, hC.2.2.2.2.2.1, l']
        refine Eq.mpr i1 ?_
        obtain ⟨υ, j1, j2, j3⟩ := l_nights7 (N := N) (Q := fun r2 υ => G (nI (nVr x V 0 2)) r2 υ) hN y2 x N 0 τ V m (by omega) (by omega) (KM_cong (fun c k q => i3 c k (by omega)) hKM) hK.2.2.1 hV (by omega)
        have r4 : ¬ τ 55 4 = 0 := by rw [i3 _ _ (by omega)]; exact q4
        have r5 : τ 59 5 = nI (V 0 5) := by rw [i3 _ _ (by omega), hM _ (by omega)]
        simp only [w_X7_nights, r4, if_false, t_in32 1 24 (show (1 : Int64).toInt = 1 by decide) (show (24 : Int64).toInt = 24 by decide), g, and_self, if_true, z10, if_false, true_and, cl0, vq0, cl1, vq1, cl2, vq2, cl3, vq3, cl4, vq4, cl5, vq5, r5, l']
        refine Eq.mpr j1 ?_
        refine hG _ _ (Inv_acts hI (fun c k q => ?_) t4 (KC_cong (fun c k q => j3 c k (by omega)) i2) j2)
        rw [j3 _ _ (by omega), i3 _ _ (by omega)]
      · have l' : ¬ nI (H 5) + nI x ≤ (999 : Int32) := by
          rw [nI_add, lit_999, z_le (by omega) (by omega)]
          exact l
        simp only [h, g, and_self, if_true, z10, if_false, true_and, hC.2.2.2.2.2.1, l', w_X7_nights, q4, t_in32 1 24 (show (1 : Int64).toInt = 1 by decide) (show (24 : Int64).toInt = 24 by decide), cl0, vq0, cl1, vq1, cl2, vq2, cl3, vq3, cl4, vq4, cl5, vq5, hM 5 (by decide), hG _ _ hI]
    · simp only [h, g, and_self, if_true, z10, if_false, true_and, w_X7_nights, q4, t_in32 1 24 (show (1 : Int64).toInt = 1 by decide) (show (24 : Int64).toInt = 24 by decide), hG _ _ hI]
  · have q4 : σ 55 4 = 0 := by
      rw [h4, if_pos (by omega)]
      rfl
    simp only [h, and_self, if_true, z10, if_false, true_and, w_X7_nights, q4, hG _ _ hI]
end AV
