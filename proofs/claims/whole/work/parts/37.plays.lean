/-! ===== plays, count ===== -/
def ag2 (σ τ : kS) : Prop := ∀ c k, ¬ (c = 55 ∧ (k = 18 ∨ k = 19)) → τ c k = σ c k
theorem ag2.MH {σ τ : kS} {H : Nat → Nat} (h : ag2 σ τ) (hM : MH σ H) : MH τ H := fun i hi => by rw [h 59 i (by omega), hM i hi]
theorem ag2.st {σ τ : kS} (h : ag2 σ τ) {k : Nat} {v : Int32} (q : k = 18 ∨ k = 19) : ag2 σ (st2 τ 55 k v) := by
  intro c' k' h'
  rw [st2_app, if_neg, h c' k' h']
  rintro ⟨rfl, rfl⟩
  exact h' ⟨rfl, q⟩
theorem ag2.sc {σ τ : kS} (h : ag2 σ τ) : Sc σ τ := fun c k q => h c k (by unfold scr at q; omega)
section PL
variable {N : Nat} {σ τ : kS} {H : Nat → Nat} {Q : Int32 → kS → Prop} {G : Int32 → Int32 → kS → Prop}
theorem l_rch_step {q p a k n : Nat} {y : Int32} {E : kS → Prop} (hM : MH σ H) (hV : HV H) (hq : q < H 4) (hp : p < H 3) (hk : k < H (6 + p)) (ha : a ≤ 12) (hA : ag2 σ τ) (h18 : τ 55 18 = nI a) (h19 : τ 55 19 = y)
    (kk : ∀ υ, ag2 σ υ → υ 55 18 = nI (min a (kyf H (bi H q) p k)) → υ 55 19 = (if nI (kyf H (bi H q) p k) ≤ y then y else nI (kyf H (bi H q) p k)) → l_X7_reaches_13 N Q (nI q) (nI p) E n (nI (k + 1)) υ) : l_X7_reaches_13 N Q (nI q) (nI p) E (n + 1) (nI k) τ := by
  have h0 := hV.1
  have h4 : H 3 ≤ 4 := hV.2.2.2.1
  have h8 := hV.2.2.2.2.2.2.1 p hp
  have hMt := hA.MH hM
  have hs := hV.2.2.2.2.2.2.2.1 p k hp hk
  have hf : kyf H (bi H q) p k < H 0 := kyk_lt hV _ _
  have hf2 : kyk H (bi H q) (H (10 + 8 * p + k)) = kyf H (bi H q) p k := rfl
  have e6 : (6 : Int32) + nI p = nI (6 + p) := nI_add 6 p
  have hv6 : vp_in (nI (6 + p)) 57 := vp_in_nI (by omega) (by decide)
  have m6 : τ 59 (6 + p) = nI (H (6 + p)) := hMt _ (by omega)
  have c6 : (nI (6 + p)).toNatClampNeg = 6 + p := nI_clamp (by omega)
  have e1 : (10 : Int32) + 8 * nI p + nI k = nI (10 + 8 * p + k) := by rw [lit_8, lit_10, pk_mul, nI_add, nI_add]
  have hv1 : vp_in (nI (10 + 8 * p + k)) 57 := vp_in_nI (by omega) (by decide)
  have m1 : τ 59 (10 + 8 * p + k) = nI (H (10 + 8 * p + k)) := hMt _ (by omega)
  have c1 : (nI (10 + 8 * p + k)).toNatClampNeg = 10 + 8 * p + k := nI_clamp (by omega)
  have z1 : ¬ nI (H (6 + p)) ≤ nI k := by rw [nI_leI (by omega) (by omega)]; omega
  show b_X7_reaches_13 N Q (nI q) (nI p) E _ (nI k) τ
  unfold b_X7_reaches_13
  simp (disch := omega) only [e6, hv6, c6, m6, z1, and_self, if_true, z10, if_false, true_and, e1, hv1, c1, m1, t_biasOfM hMt hV hq, t_over (hMt 0 (by decide)), kyk_ar hV (bi_lt hV q) hs, hf2, h18]
  have key : ∀ s0 : Int32, s0 = nI (min a (kyf H (bi H q) p k)) → j_X7_reaches_71 N Q (nI q) (nI p) (nI k) (nI (kyf H (bi H q) p k)) s0 (l_X7_reaches_13 N Q (nI q) (nI p) E n) τ := by
    intro s0 hs0
    subst hs0
    unfold j_X7_reaches_71
    simp only [forall_eq, nI_1]
    have w19 : ∀ v, st2 τ 55 18 v 55 19 = y := fun v => by rw [st2_app, if_neg (by omega), h19]
    rw [w19]
    by_cases c : nI (kyf H (bi H q) p k) ≤ y
    · rw [if_pos c]
      refine kk _ ((hA.st (Or.inl rfl)).st (Or.inr rfl)) ?_ ?_
      · rw [st2_app, if_neg (by omega), st2_app, if_pos ⟨rfl, rfl⟩]
      · rw [st2_app, if_pos ⟨rfl, rfl⟩, if_pos c]
    · rw [if_neg c]
      refine kk _ ((hA.st (Or.inl rfl)).st (Or.inr rfl)) ?_ ?_
      · rw [st2_app, if_neg (by omega), st2_app, if_pos ⟨rfl, rfl⟩]
      · rw [st2_app, if_pos ⟨rfl, rfl⟩, if_neg c]
  by_cases c : nI a ≤ nI (kyf H (bi H q) p k)
  · rw [if_pos c]
    rw [nI_leI (by omega) (by omega)] at c
    exact key _ (by rw [Nat.min_eq_left c])
  · rw [if_neg c]
    rw [nI_leI (by omega) (by omega)] at c
    exact key _ (by rw [Nat.min_eq_right (by omega)])
theorem l_rch {q p : Nat} {E : kS → Prop} (hM : MH σ H) (hV : HV H) (hq : q < H 4) (hp : p < H 3) : ∀ (r n k a b : Nat) (τ : kS), k + r = H (6 + p) → r < n → a ≤ 12 → b < 12 → ag2 σ τ → τ 55 18 = nI a → τ 55 19 = nI b → (∀ υ, ag2 σ υ → υ 55 18 = nI (mnr (kyf H (bi H q) p) r k a) → υ 55 19 = nI (mxr (kyf H (bi H q) p) r k b) → E υ) → l_X7_reaches_13 N Q (nI q) (nI p) E n (nI k) τ := by
  have h0 := hV.1
  have h4 : H 3 ≤ 4 := hV.2.2.2.1
  have h8 := hV.2.2.2.2.2.2.1 p hp
  intro r
  induction r with
  | zero =>
    intro n k a b τ hk hn ha hb hA h18 h19 kk
    obtain ⟨n, rfl⟩ : ∃ j, n = j + 1 := ⟨n - 1, by omega⟩
    have hMt := hA.MH hM
    have e6 : (6 : Int32) + nI p = nI (6 + p) := nI_add 6 p
    have hv6 : vp_in (nI (6 + p)) 57 := vp_in_nI (by omega) (by decide)
    have m6 : τ 59 (6 + p) = nI (H (6 + p)) := hMt _ (by omega)
    have c6 : (nI (6 + p)).toNatClampNeg = 6 + p := nI_clamp (by omega)
    have z1 : nI (H (6 + p)) ≤ nI k := by rw [nI_leI (by omega) (by omega)]; omega
    show b_X7_reaches_13 N Q (nI q) (nI p) E _ (nI k) τ
    unfold b_X7_reaches_13
    simp only [e6, hv6, c6, m6, z1, and_self, if_true, z10, if_false, true_and]
    exact kk τ hA h18 h19
  | succ r ih =>
    intro n k a b τ hk hn ha hb hA h18 h19 kk
    obtain ⟨n, rfl⟩ : ∃ j, n = j + 1 := ⟨n - 1, by omega⟩
    have hf : kyf H (bi H q) p k < H 0 := kyk_lt hV _ _
    refine l_rch_step hM hV hq hp (by omega) ha hA h18 h19 (fun υ u1 u2 u3 => ?_)
    refine ih n (k + 1) _ (max b (kyf H (bi H q) p k)) υ (by omega) (by omega) (by omega) (by omega) u1 u2 ?_ kk
    rw [u3]
    by_cases c : kyf H (bi H q) p k ≤ b
    · rw [if_pos ((nI_leI (by omega) (by omega)).mpr c), Nat.max_eq_left c]
    · rw [if_neg (fun h => c ((nI_leI (by omega) (by omega)).mp h)), Nat.max_eq_right (by omega)]
theorem t_reachesM {q p : Nat} (hN : 5000 ≤ N) (hM : MH σ H) (hV : HV H) (hq : q < H 4) (hp : p < H 3) (kk : ∀ υ, ag2 σ υ → υ 55 18 = nI (lk H (bi H q) p) → υ 55 19 = nI (gk H (bi H q) p) → Q (if rch H q p then 1 else 0) υ) : w_X7_reaches N σ (nI q) (nI p) Q := by
  have h0 := hV.1
  have h5 : H 4 ≤ 5 := hV.2.2.2.2.1
  have h8 := hV.2.2.2.2.2.2.1 p hp
  have k3 := (hV.2.2.2.2.2.2.2.2 q hq).2.2
  have g1 := gk_lt hV (bi H q) p
  have g2 := lk_gk hV (b := bi H q) hp
  have hf : kyf H (bi H q) p 0 < H 0 := kyk_lt hV _ _
  unfold w_X7_reaches
  simp only [forall_eq]
  obtain ⟨r, hr⟩ : ∃ r, H (6 + p) = r + 1 := ⟨H (6 + p) - 1, by omega⟩
  obtain ⟨n, rfl⟩ : ∃ j, N = j + 1 := ⟨N - 1, by omega⟩
  have hA0 : ag2 σ σ := fun _ _ _ => rfl
  rw [lit_0]
  refine l_rch_step (y := -1) (a := 12) hM hV hq hp (by omega) (Nat.le_refl _) ((hA0.st (Or.inl rfl)).st (Or.inr rfl)) ?_ ?_ (fun υ u1 u2 u3 => ?_)
  · rw [st2_app, if_neg (by omega), st2_app, if_pos ⟨rfl, rfl⟩]; rfl
  · rw [st2_app, if_pos ⟨rfl, rfl⟩]
  refine l_rch hM hV hq hp r n 1 (kyf H (bi H q) p 0) (kyf H (bi H q) p 0) υ (by omega) (by omega) (by omega) (by omega) u1 ?_ ?_ (fun υ u1 u2 u3 => ?_)
  · rw [u2, Nat.min_eq_right (by omega)]
  · rw [u3, if_neg]
    rw [fa_le, nI_toInt (by omega)]
    have z : (-1 : Int32).toInt = -1 := by decide
    omega
  have eg : mxr (kyf H (bi H q) p) r 1 (kyf H (bi H q) p 0) = gk H (bi H q) p := by
    unfold gk
    rw [hr]
    show _ = mxr _ r 1 (max 0 (kyf H (bi H q) p 0))
    rw [Nat.zero_max]
  have el : mnr (kyf H (bi H q) p) r 1 (kyf H (bi H q) p 0) = lk H (bi H q) p := by
    unfold lk
    rw [hr]
    show _ = mnr _ r 1 (min (H 0) (kyf H (bi H q) p 0))
    rw [Nat.min_eq_right (by omega)]
  rw [eg] at u3
  rw [el] at u2
  have hMu := u1.MH hM
  have e52 : (52 : Int32) + nI q = nI (52 + q) := nI_add 52 q
  have hv52 : vp_in (nI (52 + q)) 57 := vp_in_nI (by omega) (by decide)
  have m52 : υ 59 (52 + q) = nI (H (52 + q)) := hMu _ (by omega)
  have c52 : (nI (52 + q)).toNatClampNeg = 52 + q := nI_clamp (by omega)
  have kk2 := kk υ u1 u2 u3
  simp (disch := omega) only [e52, hv52, c52, m52, and_self, if_true, z10, if_false, true_and, u2, u3, pk_sub, z_le]
  unfold rch at kk2
  by_cases c : H (52 + q) ≤ gk H (bi H q) p - lk H (bi H q) p
  · rw [if_pos c]
    show Q 0 υ
    simpa [Nat.not_lt.mpr c] using kk2
  · rw [if_neg c]
    simpa [Nat.not_le.mp c] using kk2
theorem P_plays (hN : 5000 ≤ N) (hI : Inv σ) (x1 x2 x3 : Int32) (hG : ∀ r τ, Inv τ → G r r τ) : w_X6_plays N σ x1 x2 x3 (fun r1 τ => w_X7_plays N τ x1 x2 x3 (fun r2 υ => G r1 r2 υ)) := by
  obtain ⟨H, ⟨hE, hC, hM, h4⟩, -⟩ := id hI
  simp only [w_X6_plays, t_hasPupil hC hE, t_hasPiece hC hE]
  by_cases h : 0 ≤ x1.toInt ∧ x1.toInt < H 4
  · obtain ⟨q, hq, rfl⟩ := arg_in h
    have hV := hE.v4 hq
    have hb := bi_lt hV q
    simp only [h, and_self, if_true, z10, if_false, true_and]
    by_cases g : 0 ≤ x2.toInt ∧ x2.toInt < H 3
    · obtain ⟨p, hp, rfl⟩ := arg_in g
      simp only [g, and_self, if_true, z10, if_false, true_and]
      have mod : ∀ r : Int32, (0 ≤ x3.toInt ∧ x3.toInt ≤ 2) → (∀ υ, ag2 σ υ → υ 55 18 = nI (lk H (bi H q) p) → υ 55 19 = nI (gk H (bi H q) p) → (if x3 = 0 then (if (if rch H q p then (1 : Int32) else 0) = 0 then G r 0 υ else G r 1 υ) else if x3 = 1 then G r (υ 55 18) υ else G r (υ 55 19) υ)) → w_X7_plays N σ (nI q) (nI p) x3 (fun r2 υ => G r r2 υ) := by
        intro r hx kk
        simp only [w_X7_plays, t_isPupil hM hE, t_isPiece hM hE, h, g, and_self, if_true, z10, if_false, true_and, t_in32 0 2 (show (0 : Int64).toInt = 0 by decide) (show (2 : Int64).toInt = 2 by decide), hx]
        exact t_reachesM hN hM hV hq hp kk
      by_cases a0 : x3 = 0
      · subst a0
        simp only [if_true, t_reaches (show 100 < N by omega) hC hV hq hp]
        by_cases c : rch H q p
        · simp only [c, and_self, if_true, z10, if_false, true_and]
          exact mod 1 (by decide) (fun υ u1 u2 u3 => by simp only [c, and_self, if_true, z10, if_false, true_and]; exact hG _ _ (hI.sc u1.sc))
        · simp only [c, if_true, if_false]
          exact mod 0 (by decide) (fun υ u1 u2 u3 => by simp only [c, if_true, if_false]; exact hG _ _ (hI.sc u1.sc))
      · by_cases a1 : x3 = 1
        · subst a1
          simp only [z10, if_false, if_true, t_biasOf hC hV hq, t_least (show 100 < N by omega) hC hV hb hp]
          exact mod _ (by decide) (fun υ u1 u2 u3 => by simp only [z10, if_false, if_true, u2]; exact hG _ _ (hI.sc u1.sc))
        · by_cases a2 : x3 = 2
          · subst a2
            simp only [a0, a1, if_false, if_true, t_biasOf hC hV hq, t_great (show 100 < N by omega) hC hV hb hp]
            exact mod _ (by decide) (fun υ u1 u2 u3 => by simp only [a0, a1, if_false, u3]; exact hG _ _ (hI.sc u1.sc))
          · have hx : ¬ (0 ≤ x3.toInt ∧ x3.toInt ≤ 2) := by
              rw [fa_eq] at a0 a1 a2
              have z0 : (0 : Int32).toInt = 0 := by decide
              have z1 : (1 : Int32).toInt = 1 := by decide
              have z2 : (2 : Int32).toInt = 2 := by decide
              omega
            simp only [a0, a1, a2, if_false, w_X7_plays, t_isPupil hM hE, t_isPiece hM hE, h, g, and_self, if_true, z10, if_false, true_and, t_in32 0 2 (show (0 : Int64).toInt = 0 by decide) (show (2 : Int64).toInt = 2 by decide), hx, hG _ _ hI]
    · simp only [g, and_self, if_true, z10, if_false, true_and, w_X7_plays, t_isPupil hM hE, t_isPiece hM hE, h, hG _ _ hI]
  · simp only [h, and_self, if_true, z10, if_false, true_and, w_X7_plays, t_isPupil hM hE, hG _ _ hI]
end PL
