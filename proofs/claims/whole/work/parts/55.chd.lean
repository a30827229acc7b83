section CD
variable {N : Nat} {σ : kS} {H : Nat → Nat} {Q : Int32 → kS → Prop} {QL : Int64 → kS → Prop} {E : Int32 → kS → Prop} {G : Int32 → Int32 → kS → Prop}
theorem t_has {m k : Nat} (hm : m < 2 ^ 12) (hk : k < 12) : w_X7_has N σ (nI m) (nI k) Q = Q (if m.testBit k then 1 else 0) σ := by
  unfold w_X7_has
  rw [bit_at hm hk]
  cases m.testBit k
  · rw [if_neg (by decide)]
    rfl
  · rw [if_pos (by decide)]
    rfl
theorem l_chords40 {x1 x2 : Int32} {m : Nat} (hM : MH σ H) (hV : HV H) (hm : m < 2 ^ 12) : ∀ (r n k a : Nat), k + r = H 0 → r < n → l_X7_chords_40 N Q x1 x2 (nI m) E n (nI a) (nI k) σ = E (nI (rtR (H 0) (H 1) m r k a)) σ := by
  have h0 := hV.1
  have h1 := hV.2.1
  intro r
  induction r with
  | zero =>
    intro n k a hk hn
    obtain ⟨n, rfl⟩ : ∃ j, n = j + 1 := ⟨n - 1, by omega⟩
    show b_X7_chords_40 N Q x1 x2 (nI m) E _ (nI a) (nI k) σ = _
    unfold b_X7_chords_40
    simp only [cl0, vq0, cl1, vq1, cl2, vq2, cl3, vq3, cl4, vq4, cl5, vq5, true_and, hM 0 (show 0 < 57 by omega)]
    rw [if_pos ((z_le (by omega) (by omega)).mpr (by omega))]
    rfl
  | succ r ih =>
    intro n k a hk hn
    obtain ⟨n, rfl⟩ : ∃ j, n = j + 1 := ⟨n - 1, by omega⟩
    show b_X7_chords_40 N Q x1 x2 (nI m) E _ (nI a) (nI k) σ = _
    unfold b_X7_chords_40
    have ek : nI k + 1 = nI (k + 1) := by rw [lit_1, nI_add]
    have lt := Nat.mod_lt (k + H 1) (show 0 < H 0 by omega)
    simp only [cl0, vq0, cl1, vq1, cl2, vq2, cl3, vq3, cl4, vq4, cl5, vq5, true_and, hM 0 (show 0 < 57 by omega), hM 1 (show 1 < 57 by omega)]
    rw [if_neg (fun q => absurd ((z_le (by omega) (by omega)).mp q) (by omega)), t_has hm (by omega)]
    simp only [hM 1 (show 1 < 57 by omega), nI_add, t_over (hM 0 (show 0 < 57 by omega)) (show 0 < H 0 by omega) (show H 0 < 2 ^ 31 by omega), fov_nat (show k + H 1 < 2 ^ 31 by omega), shl1 (show (k + H 1) % H 0 < 12 by omega), fa_or, or_0, forall_eq, ek, ih n (k + 1) _ (show k + 1 + r = H 0 by omega) (show r < n by omega)]
    show _ = E (nI (rtR (H 0) (H 1) m r (k + 1) (if m.testBit k then a ||| 2 ^ ((k + H 1) % H 0) else a))) σ
    cases m.testBit k <;> simp
theorem l_divisor : ∀ (j n k a b : Nat), a < 2 ^ 62 → b < 2 ^ j → j ≤ 60 → k + 2 * j ≤ 126 → 2 * j < n → l_X2_divisorOfBoth_9 N QL n (lN a) (lN b) (nI k) σ = QL (lN (Nat.gcd a b)) σ := by
  intro j
  have l0 : (0 : Int64) = lN 0 := rfl
  have l128 : (128 : Int32) = nI 128 := rfl
  have z : ∀ (n k a : Nat), k ≤ 126 → 0 < n → l_X2_divisorOfBoth_9 N QL n (lN a) (lN 0) (nI k) σ = QL (lN a) σ := by
    intro n k a hk hn
    obtain ⟨n, rfl⟩ : ∃ i, n = i + 1 := ⟨n - 1, by omega⟩
    show b_X2_divisorOfBoth_9 N QL _ (lN a) (lN 0) (nI k) σ = _
    unfold b_X2_divisorOfBoth_9
    rw [l128, if_neg (fun q => absurd ((z_le (by omega) (by omega)).mp q) (by omega)), l0, if_pos (lgc_eq.mpr rfl)]
  have s : ∀ (n k a b : Nat), a < 2 ^ 62 → 0 < b → b < 2 ^ 62 → k ≤ 126 → l_X2_divisorOfBoth_9 N QL (n + 1) (lN a) (lN b) (nI k) σ = l_X2_divisorOfBoth_9 N QL n (lN b) (lN (a % b)) (nI (k + 1)) σ := by
    intro n k a b ha hb hb2 hk
    have nb : ¬ lN b = lN 0 := by
      rw [pk_lEQ (by omega) (by omega)]
      omega
    have ek : nI k + 1 = nI (k + 1) := by rw [lit_1, nI_add]
    show b_X2_divisorOfBoth_9 N QL _ (lN a) (lN b) (nI k) σ = _
    unfold b_X2_divisorOfBoth_9
    rw [l128, if_neg (fun q => absurd ((z_le (by omega) (by omega)).mp q) (by omega)), l0, if_neg (fun q => nb (lgc_eq.mp q)), kremL_lN (by omega) hb (by omega)]
    simp only [nb, not_false_eq_true, true_and, forall_eq, ek]
  induction j with
  | zero =>
    intro n k a b ha hb hj hk hn
    rw [show b = 0 by omega, z n k a (by omega) (by omega), Nat.gcd_zero_right]
  | succ j ih =>
    intro n k a b ha hb hj hk hn
    have p62 : 2 ^ (j + 1) ≤ 2 ^ 62 := Nat.pow_le_pow_right (by omega) (by omega)
    by_cases e : b = 0
    · rw [e, z n k a (by omega) (by omega), Nat.gcd_zero_right]
    · obtain ⟨n, rfl⟩ : ∃ i, n = i + 1 := ⟨n - 1, by omega⟩
      have l1 := Nat.mod_lt a (show 0 < b by omega)
      have g1 : Nat.gcd a b = Nat.gcd b (a % b) := by rw [Nat.gcd_comm, Nat.gcd_rec, Nat.gcd_comm]
      rw [s n k a b ha (by omega) (by omega) (by omega), g1]
      by_cases e2 : a % b = 0
      · rw [e2, z n (k + 1) b (by omega) (by omega), Nat.gcd_zero_right]
      · obtain ⟨n, rfl⟩ : ∃ i, n = i + 1 := ⟨n - 1, by omega⟩
        have l2 := Nat.mod_lt b (show 0 < a % b by omega)
        have g2 : Nat.gcd b (a % b) = Nat.gcd (a % b) (b % (a % b)) := by rw [Nat.gcd_comm, Nat.gcd_rec, Nat.gcd_comm]
        have h3 : b % (a % b) < 2 ^ j := by
          have d := Nat.div_add_mod b (a % b)
          have q1 : 1 ≤ b / (a % b) := Nat.div_pos (by omega) (by omega)
          have q2 : (a % b) * 1 ≤ (a % b) * (b / (a % b)) := Nat.mul_le_mul_left _ q1
          rw [Nat.pow_succ] at hb
          omega
        rw [s n (k + 1) b (a % b) (by omega) (by omega) (by omega) (by omega), g2]
        exact ih n (k + 1 + 1) (a % b) (b % (a % b)) (by omega) h3 (by omega) (by omega) (by omega)
end CD
