/-! ===== chords: the count and the k-th ===== -/
theorem smdB : ∀ b, b < 31 → ((nI b &&& 31).toBitVec.smod 32).toNat = b := by decide
theorem shl1B {b : Nat} (h : b < 31) : (1 : Int32) <<< (nI b &&& 31) = nI (2 ^ b) := by
  have hp : 2 ^ b ≤ 2 ^ 30 := Nat.pow_le_pow_right (by omega) (by omega)
  rw [lit_1, pk_shlN _ b (smdB b h) (by omega), Nat.one_mul]
theorem rp_ok : ∀ K, K < 13 → ∀ d, d < K → (2 ^ (Nat.gcd d K) - 1) * rpR K d = 2 ^ K - 1 := by decide +kernel
theorem rp_pos {K d : Nat} (hK : 2 ≤ K ∧ K ≤ 12) (hd : d < K) : 1 ≤ rpR K d := by
  have h := rp_ok K (by omega) d hd
  have p : 2 ^ 2 ≤ 2 ^ K := Nat.pow_le_pow_right (by omega) hK.1
  by_cases e : rpR K d = 0
  · rw [e, Nat.mul_zero] at h
    omega
  · omega
theorem rp_two {K d : Nat} (hK : 2 ≤ K ∧ K ≤ 12) (hd : d < K) : 2 ^ (Nat.gcd d K) * rpR K d + 1 = 2 ^ K + rpR K d := by
  have h := rp_ok K (by omega) d hd
  have p : 2 ^ 2 ≤ 2 ^ K := Nat.pow_le_pow_right (by omega) hK.1
  have q : 1 ≤ 2 ^ (Nat.gcd d K) := Nat.one_le_two_pow
  obtain ⟨a, ha⟩ : ∃ a, 2 ^ (Nat.gcd d K) = a + 1 := ⟨2 ^ (Nat.gcd d K) - 1, by omega⟩
  rw [ha] at h ⊢
  rw [Nat.add_sub_cancel] at h
  rw [Nat.add_mul, Nat.one_mul, h]
  omega
theorem mulR {a b R : Nat} (h : a * R < b * R) : a < b := Nat.lt_of_mul_lt_mul_right h
theorem pk2 {K : Nat} (hK : 2 ≤ K ∧ K ≤ 12) : 2 ^ K ≤ 4096 := by
  have : 2 ^ K ≤ 2 ^ 12 := Nat.pow_le_pow_right (by omega) hK.2
  omega
section CE
variable {N : Nat} {σ : kS} {H : Nat → Nat} {Q : Int32 → kS → Prop} {QL : Int64 → kS → Prop} {E : Int32 → kS → Prop} {G : Int32 → Int32 → kS → Prop}
theorem l_chords22 {x1 : Int32} {kq : Nat} (hN : 5000 ≤ N) (hM : MH σ H) (hV : HV H) (hx : ∀ c, c ≤ 4096 → (nI c = x1 ↔ c = kq)) : ∀ (r n m c : Nat), m + r = 2 ^ H 0 → r < n → c ≤ m → m ≤ c * rpR (H 0) (H 1) → c * rpR (H 0) (H 1) < m + rpR (H 0) (H 1) → c ≤ kq → l_X7_chords_22 N Q x1 E n (nI c) (nI m) σ = if kq < 2 ^ Nat.gcd (H 1) (H 0) then Q (nI (kq * rpR (H 0) (H 1))) σ else E (nI (2 ^ Nat.gcd (H 1) (H 0))) σ := by
  have h0 := hV.1
  have h1 := hV.2.1
  have p2 := pk2 h0
  have rp := rp_pos h0 h1
  have rt := rp_two h0 h1
  have e0 : (1 : Int32) <<< (nI (H 0) &&& 31) = nI (2 ^ H 0) := shl1B (by omega)
  obtain ⟨R, hR⟩ : ∃ R, R = rpR (H 0) (H 1) := ⟨_, rfl⟩
  obtain ⟨g, hg⟩ : ∃ g, g = 2 ^ Nat.gcd (H 1) (H 0) := ⟨_, rfl⟩
  rw [← hR] at rp rt ⊢
  rw [← hg] at rt ⊢
  intro r
  induction r with
  | zero =>
    intro n m c hm hn hc h3 h4 h5
    obtain ⟨n, rfl⟩ : ∃ j, n = j + 1 := ⟨n - 1, by omega⟩
    show b_X7_chords_22 N Q x1 E _ (nI c) (nI m) σ = _
    unfold b_X7_chords_22
    simp only [cl0, vq0, cl1, vq1, cl2, vq2, cl3, vq3, cl4, vq4, cl5, vq5, true_and, hM 0 (show 0 < 57 by omega), e0]
    rw [if_pos ((z_le (by omega) (by omega)).mpr (by omega))]
    have a1 : c < g + 1 := mulR (R := R) (by rw [Nat.add_mul, Nat.one_mul]; omega)
    have a2 : g < c + 1 := mulR (R := R) (by rw [Nat.add_mul, Nat.one_mul]; omega)
    have a3 : c = g := by omega
    rw [if_neg (by omega), a3]
  | succ r ih =>
    intro n m c hm hn hc h3 h4 h5
    obtain ⟨n, rfl⟩ : ∃ j, n = j + 1 := ⟨n - 1, by omega⟩
    show b_X7_chords_22 N Q x1 E _ (nI c) (nI m) σ = _
    unfold b_X7_chords_22
    have ek : nI m + 1 = nI (m + 1) := by rw [lit_1, nI_add]
    have ec : nI c + 1 = nI (c + 1) := by rw [lit_1, nI_add]
    simp only [cl0, vq0, cl1, vq1, cl2, vq2, cl3, vq3, cl4, vq4, cl5, vq5, true_and, hM 0 (show 0 < 57 by omega), e0]
    rw [if_neg (fun q => absurd ((z_le (by omega) (by omega)).mp q) (by omega))]
    rw [lit_0, l_chords40 hM hV (show m < 2 ^ 12 by omega) (H 0) N 0 0 (by omega) (by omega)]
    have ri := rot_iff (m := m) h0 h1 (by omega)
    rw [← hR] at ri
    have hrt : ∀ r k a, a < 2 ^ 12 → rtR (H 0) (H 1) m r k a < 2 ^ 12 := by
      intro r
      induction r with
      | zero => intro k a ha; exact ha
      | succ r ih2 =>
        intro k a ha
        unfold rtR
        refine ih2 _ _ ?_
        have lt := Nat.mod_lt (k + H 1) (show 0 < H 0 by omega)
        have : 2 ^ ((k + H 1) % H 0) < 2 ^ 12 := Nat.pow_lt_pow_right (by omega) (by omega)
        split
        · exact Nat.or_lt_two_pow ha this
        · exact ha
    have hlt := hrt (H 0) 0 0 (by decide)
    simp only [forall_eq, ek, ec, z_eq (show rtR (H 0) (H 1) m (H 0) 0 0 < 2 ^ 31 by omega) (show m < 2 ^ 31 by omega), hx c (by omega), ri]
    by_cases a : m % R = 0
    · rw [if_pos a]
      obtain ⟨q, hq⟩ : ∃ q, m = R * q := Nat.dvd_of_mod_eq_zero a
      rw [Nat.mul_comm] at hq
      have b1 : c < q + 1 := mulR (R := R) (by rw [Nat.add_mul, Nat.one_mul]; omega)
      have b2 : q < c + 1 := mulR (R := R) (by rw [Nat.add_mul, Nat.one_mul]; omega)
      have b3 : q = c := by omega
      subst b3
      by_cases b : q = kq
      · rw [if_pos b]
        subst b
        have b4 : q < g := mulR (R := R) (by omega)
        rw [if_pos b4, hq]
      · rw [if_neg b]
        refine ih n (m + 1) (q + 1) (by omega) (by omega) (by omega) ?_ ?_ (by omega)
        · rw [Nat.add_mul, Nat.one_mul]; omega
        · rw [Nat.add_mul, Nat.one_mul]; omega
    · rw [if_neg a]
      refine ih n (m + 1) c (by omega) (by omega) (by omega) ?_ (by omega) h5
      have : m ≠ c * R := by
        intro q
        rw [q, Nat.mul_mod_left] at a
        exact a rfl
      omega
theorem t_own (hN : 5000 ≤ N) (hC : CH σ 33 H) (hV : HV H) : w_X2_ownStrings N σ Q = Q (nI (Nat.gcd (H 1) (H 0))) σ := by
  have h0 := hV.1
  have h1 := hV.2.1
  unfold w_X2_ownStrings w_X2_divisorOfBoth
  rw [hC.1, hC.2.1, nI_l (by omega), nI_l (by omega), lit_0, l_divisor 4 N 0 (H 1) (H 0) (by omega) (by omega) (by omega) (by omega) (by omega), lN_i]
theorem l_chordNo {k g : Nat} (hC : CH σ 33 H) (hV : HV H) (hg : 1 ≤ g) (hk : k < 2 ^ g) : ∀ (r n i a : Nat), i + g * r = H 0 → r < n → a < 2 ^ i → a * (2 ^ g - 1) = k * (2 ^ i - 1) → ∃ b, b * (2 ^ g - 1) = k * (2 ^ H 0 - 1) ∧ l_X2_chordNumber_14 N Q (nI k) (nI g) n (nI a) (nI i) σ = Q (nI b) σ := by
  have h0 := hV.1
  intro r
  induction r with
  | zero =>
    intro n i a hi hn ha h
    rw [Nat.mul_zero, Nat.add_zero] at hi
    obtain ⟨n, rfl⟩ : ∃ j, n = j + 1 := ⟨n - 1, by omega⟩
    refine ⟨a, by rw [h, hi], ?_⟩
    show b_X2_chordNumber_14 N Q (nI k) (nI g) _ (nI a) (nI i) σ = _
    unfold b_X2_chordNumber_14
    rw [hC.1, if_pos ((z_le (by omega) (by omega)).mpr (by omega))]
  | succ r ih =>
    intro n i a hi hn ha h
    rw [Nat.mul_succ] at hi
    obtain ⟨n, rfl⟩ : ∃ j, n = j + 1 := ⟨n - 1, by omega⟩
    have q1 : 1 ≤ 2 ^ g := Nat.one_le_two_pow
    have q2 : 1 ≤ 2 ^ i := Nat.one_le_two_pow
    have q3 : 2 ^ (i + g) = 2 ^ i * 2 ^ g := Nat.pow_add 2 i g
    have q4 : 2 ^ (i + g) ≤ 2 ^ 12 := Nat.pow_le_pow_right (by omega) (by omega)
    obtain ⟨u, hu⟩ : ∃ u, 2 ^ g = u + 1 := ⟨2 ^ g - 1, by omega⟩
    obtain ⟨v, hv⟩ : ∃ v, 2 ^ i = v + 1 := ⟨2 ^ i - 1, by omega⟩
    have q5 : k * 2 ^ i ≤ u * 2 ^ i := Nat.mul_le_mul_right _ (by omega)
    have q6 : u * 2 ^ i + 2 ^ i = 2 ^ (i + g) := by rw [q3, hu, Nat.mul_add, Nat.mul_one, Nat.mul_comm]
    have hor : a ||| k * 2 ^ i = a + k * 2 ^ i := by
      rw [Nat.or_comm, Nat.mul_comm, ← Nat.two_pow_add_eq_or_of_lt ha]
      omega
    obtain ⟨b, hb, e⟩ := ih n (i + g) (a + k * 2 ^ i) (by omega) (by omega) (by omega) (by
      rw [hu, hv, Nat.add_sub_cancel, Nat.add_sub_cancel] at h
      rw [q3, hu, hv, Nat.add_sub_cancel]
      have e1 : (v + 1) * (u + 1) - 1 = v + (v + 1) * u := by
        rw [Nat.mul_add, Nat.mul_one]; omega
      rw [e1, Nat.add_mul, h, Nat.mul_assoc, ← Nat.mul_add])
    refine ⟨b, hb, ?_⟩
    rw [← e]
    show b_X2_chordNumber_14 N Q (nI k) (nI g) _ (nI a) (nI i) σ = _
    unfold b_X2_chordNumber_14
    rw [hC.1, if_neg (fun q => absurd ((z_le (by omega) (by omega)).mp q) (by omega))]
    rw [pk_shlN _ i (smdB i (by omega)) (by omega), fa_or, hor]
    simp only [forall_eq, nI_add]
theorem P_chords (hN : 5000 ≤ N) (hI : Inv σ) (x1 : Int32) (hG : ∀ r τ, Inv τ → G r r τ) : w_X6_chords N σ x1 (fun r1 τ => w_X7_chords N τ x1 (fun r2 υ => G r1 r2 υ)) := by
  obtain ⟨H, ⟨hE, hC, hM, h4⟩, -⟩ := id hI
  simp only [w_X6_chords, t_isTold hC hE]
  by_cases h : 0 < H 0
  · have hV := hE.v0 h
    have h0 := hV.1
    have h1 := hV.2.1
    have p2 := pk2 h0
    have rp := rp_pos h0 h1
    have rt := rp_two h0 h1
    have q5 := there1 h h4
    have gp : 0 < Nat.gcd (H 1) (H 0) := Nat.gcd_pos_of_pos_right _ (by omega)
    have gd : Nat.gcd (H 1) (H 0) ∣ H 0 := Nat.gcd_dvd_right _ _
    have gl : Nat.gcd (H 1) (H 0) ≤ H 0 := Nat.le_of_dvd (by omega) gd
    have pg : 2 ^ Nat.gcd (H 1) (H 0) ≤ 2 ^ H 0 := Nat.pow_le_pow_right (by omega) gl
    simp only [h, and_self, if_true, z10, if_false, true_and, w_X2_chordCount, t_own hN hC hV, shl1B (show Nat.gcd (H 1) (H 0) < 31 by omega)]
    by_cases a : (-1 : Int32) ≤ x1
    · simp only [a, if_true]
      by_cases b : x1 = -1
      · subst b
        simp only [if_true, w_X7_chords, q5, if_false, a]
        have z : ¬ (0 : Int32) ≤ -1 := by decide
        have hx : ∀ c, c ≤ 4096 → (nI c = (-1 : Int32) ↔ c = 5000) := by
          intro c hc
          rw [fa_eq, nI_toInt (by omega)]
          have : (-1 : Int32).toInt = -1 := by decide
          omega
        rw [lit_0, l_chords22 hN hM hV hx (2 ^ H 0) N 0 0 (by omega) (by omega) (by omega) (by omega) (by omega) (by omega), if_neg (by omega)]
        rw [lit_0] at z
        rw [if_neg z]
        exact hG _ _ hI
      · have b0 : 0 ≤ x1.toInt := by
          rw [fa_le] at a
          rw [fa_eq] at b
          have z : (-1 : Int32).toInt = -1 := by decide
          omega
        obtain ⟨k, hk, rfl, -⟩ := nI_inv b0
        have z : nI 0 ≤ nI k := (z_le (by omega) (by omega)).mpr (by omega)
        have hx : ∀ c, c ≤ 4096 → (nI c = nI k ↔ c = k) := fun c hc => z_eq (by omega) (by omega)
        have lr := fun Q E => l_chords22 (N := N) (Q := Q) (E := E) hN hM hV hx (2 ^ H 0) N 0 0 (by omega) (by omega) (by omega) (by omega) (by omega) (by omega)
        simp only [b, if_false, z_le (show 2 ^ Nat.gcd (H 1) (H 0) < 2 ^ 31 by omega) hk]
        by_cases f : 2 ^ Nat.gcd (H 1) (H 0) ≤ k
        · simp only [f, if_true, w_X7_chords, q5, if_false, a]
          rw [lit_0, lr, if_neg (by omega), if_pos z]
          exact hG _ _ hI
        · have g1 : kmax 1 (nI (Nat.gcd (H 1) (H 0))) = nI (Nat.gcd (H 1) (H 0)) := by
            rw [lit_1, kmax_nI (by omega) (by omega), Nat.max_eq_right (by omega)]
          simp only [f, if_false, w_X2_chordNumber, t_own hN hC hV, forall_eq, g1]
          obtain ⟨r, hr⟩ := gd
          have hrl : r ≤ H 0 := by
            by_cases e : r = 0
            · omega
            · rw [hr]
              exact Nat.le_mul_of_pos_left _ gp
          obtain ⟨b, hb, e⟩ := l_chordNo (N := N) (Q := fun r1 τ => w_X7_chords N τ (nI k) (fun r2 υ => G r1 r2 υ)) hC hV gp (show k < 2 ^ Nat.gcd (H 1) (H 0) by omega) r N 0 0 (by omega) (by omega) (by omega) (by rw [Nat.zero_mul, Nat.pow_zero, Nat.sub_self, Nat.mul_zero])
          have eb : b = k * rpR (H 0) (H 1) := by
            rw [← rp_ok (H 0) (by omega) (H 1) h1, Nat.mul_comm (2 ^ Nat.gcd (H 1) (H 0) - 1), ← Nat.mul_assoc] at hb
            refine Nat.eq_of_mul_eq_mul_right ?_ hb
            have : 2 ^ 1 ≤ 2 ^ Nat.gcd (H 1) (H 0) := Nat.pow_le_pow_right (by omega) gp
            omega
          rw [lit_0, e]
          simp only [w_X7_chords, q5, if_false, a, if_true]
          rw [lit_0, lr, if_pos (by omega), eb]
          exact hG _ _ hI
    · simp only [a, if_false, w_X7_chords, q5, hG _ _ hI]
  · simp only [h, if_false, if_true, w_X7_chords, there0 h h4, hG _ _ hI]
end CE
