/-! ===== chords: which masks stay ===== -/
def rtR (K d m : Nat) : Nat → Nat → Nat → Nat
  | 0, _, a => a
  | r + 1, k, a => rtR K d m r (k + 1) (if m.testBit k then a ||| 2 ^ ((k + d) % K) else a)
def rpR (K d : Nat) : Nat := (2 ^ K - 1) / (2 ^ (Nat.gcd d K) - 1)
def ckM (K d : Nat) : Nat → Bool
  | 0 => true
  | m + 1 => (if rtR K d m K 0 0 = m then decide (m % rpR K d = 0) else !decide (m % rpR K d = 0)) && ckM K d m
theorem ck2_0 : ckM 2 0 (2 ^ 2) = true := by decide +kernel
theorem ck2_1 : ckM 2 1 (2 ^ 2) = true := by decide +kernel
theorem ck3_0 : ckM 3 0 (2 ^ 3) = true := by decide +kernel
theorem ck3_1 : ckM 3 1 (2 ^ 3) = true := by decide +kernel
theorem ck3_2 : ckM 3 2 (2 ^ 3) = true := by decide +kernel
theorem ck4_0 : ckM 4 0 (2 ^ 4) = true := by decide +kernel
theorem ck4_1 : ckM 4 1 (2 ^ 4) = true := by decide +kernel
theorem ck4_2 : ckM 4 2 (2 ^ 4) = true := by decide +kernel
theorem ck4_3 : ckM 4 3 (2 ^ 4) = true := by decide +kernel
theorem ck5_0 : ckM 5 0 (2 ^ 5) = true := by decide +kernel
theorem ck5_1 : ckM 5 1 (2 ^ 5) = true := by decide +kernel
theorem ck5_2 : ckM 5 2 (2 ^ 5) = true := by decide +kernel
theorem ck5_3 : ckM 5 3 (2 ^ 5) = true := by decide +kernel
theorem ck5_4 : ckM 5 4 (2 ^ 5) = true := by decide +kernel
theorem ck6_0 : ckM 6 0 (2 ^ 6) = true := by decide +kernel
theorem ck6_1 : ckM 6 1 (2 ^ 6) = true := by decide +kernel
theorem ck6_2 : ckM 6 2 (2 ^ 6) = true := by decide +kernel
theorem ck6_3 : ckM 6 3 (2 ^ 6) = true := by decide +kernel
theorem ck6_4 : ckM 6 4 (2 ^ 6) = true := by decide +kernel
theorem ck6_5 : ckM 6 5 (2 ^ 6) = true := by decide +kernel
theorem ck7_0 : ckM 7 0 (2 ^ 7) = true := by decide +kernel
theorem ck7_1 : ckM 7 1 (2 ^ 7) = true := by decide +kernel
theorem ck7_2 : ckM 7 2 (2 ^ 7) = true := by decide +kernel
theorem ck7_3 : ckM 7 3 (2 ^ 7) = true := by decide +kernel
theorem ck7_4 : ckM 7 4 (2 ^ 7) = true := by decide +kernel
theorem ck7_5 : ckM 7 5 (2 ^ 7) = true := by decide +kernel
theorem ck7_6 : ckM 7 6 (2 ^ 7) = true := by decide +kernel
theorem ck8_0 : ckM 8 0 (2 ^ 8) = true := by decide +kernel
theorem ck8_1 : ckM 8 1 (2 ^ 8) = true := by decide +kernel
theorem ck8_2 : ckM 8 2 (2 ^ 8) = true := by decide +kernel
theorem ck8_3 : ckM 8 3 (2 ^ 8) = true := by decide +kernel
theorem ck8_4 : ckM 8 4 (2 ^ 8) = true := by decide +kernel
theorem ck8_5 : ckM 8 5 (2 ^ 8) = true := by decide +kernel
theorem ck8_6 : ckM 8 6 (2 ^ 8) = true := by decide +kernel
theorem ck8_7 : ckM 8 7 (2 ^ 8) = true := by decide +kernel
theorem ck9_0 : ckM 9 0 (2 ^ 9) = true := by decide +kernel
theorem ck9_1 : ckM 9 1 (2 ^ 9) = true := by decide +kernel
theorem ck9_2 : ckM 9 2 (2 ^ 9) = true := by decide +kernel
theorem ck9_3 : ckM 9 3 (2 ^ 9) = true := by decide +kernel
theorem ck9_4 : ckM 9 4 (2 ^ 9) = true := by decide +kernel
theorem ck9_5 : ckM 9 5 (2 ^ 9) = true := by decide +kernel
theorem ck9_6 : ckM 9 6 (2 ^ 9) = true := by decide +kernel
theorem ck9_7 : ckM 9 7 (2 ^ 9) = true := by decide +kernel
theorem ck9_8 : ckM 9 8 (2 ^ 9) = true := by decide +kernel
theorem ck10_0 : ckM 10 0 (2 ^ 10) = true := by decide +kernel
theorem ck10_1 : ckM 10 1 (2 ^ 10) = true := by decide +kernel
theorem ck10_2 : ckM 10 2 (2 ^ 10) = true := by decide +kernel
theorem ck10_3 : ckM 10 3 (2 ^ 10) = true := by decide +kernel
theorem ck10_4 : ckM 10 4 (2 ^ 10) = true := by decide +kernel
theorem ck10_5 : ckM 10 5 (2 ^ 10) = true := by decide +kernel
theorem ck10_6 : ckM 10 6 (2 ^ 10) = true := by decide +kernel
theorem ck10_7 : ckM 10 7 (2 ^ 10) = true := by decide +kernel
theorem ck10_8 : ckM 10 8 (2 ^ 10) = true := by decide +kernel
theorem ck10_9 : ckM 10 9 (2 ^ 10) = true := by decide +kernel
theorem ck11_0 : ckM 11 0 (2 ^ 11) = true := by decide +kernel
theorem ck11_1 : ckM 11 1 (2 ^ 11) = true := by decide +kernel
theorem ck11_2 : ckM 11 2 (2 ^ 11) = true := by decide +kernel
theorem ck11_3 : ckM 11 3 (2 ^ 11) = true := by decide +kernel
theorem ck11_4 : ckM 11 4 (2 ^ 11) = true := by decide +kernel
theorem ck11_5 : ckM 11 5 (2 ^ 11) = true := by decide +kernel
theorem ck11_6 : ckM 11 6 (2 ^ 11) = true := by decide +kernel
theorem ck11_7 : ckM 11 7 (2 ^ 11) = true := by decide +kernel
theorem ck11_8 : ckM 11 8 (2 ^ 11) = true := by decide +kernel
theorem ck11_9 : ckM 11 9 (2 ^ 11) = true := by decide +kernel
theorem ck11_10 : ckM 11 10 (2 ^ 11) = true := by decide +kernel
theorem ck12_0 : ckM 12 0 (2 ^ 12) = true := by decide +kernel
theorem ck12_1 : ckM 12 1 (2 ^ 12) = true := by decide +kernel
theorem ck12_2 : ckM 12 2 (2 ^ 12) = true := by decide +kernel
theorem ck12_3 : ckM 12 3 (2 ^ 12) = true := by decide +kernel
theorem ck12_4 : ckM 12 4 (2 ^ 12) = true := by decide +kernel
theorem ck12_5 : ckM 12 5 (2 ^ 12) = true := by decide +kernel
theorem ck12_6 : ckM 12 6 (2 ^ 12) = true := by decide +kernel
theorem ck12_7 : ckM 12 7 (2 ^ 12) = true := by decide +kernel
theorem ck12_8 : ckM 12 8 (2 ^ 12) = true := by decide +kernel
theorem ck12_9 : ckM 12 9 (2 ^ 12) = true := by decide +kernel
theorem ck12_10 : ckM 12 10 (2 ^ 12) = true := by decide +kernel
theorem ck12_11 : ckM 12 11 (2 ^ 12) = true := by decide +kernel
theorem ckM_at {K d : Nat} : ∀ M, ckM K d M = true → ∀ m, m < M → (rtR K d m K 0 0 = m ↔ m % rpR K d = 0) := by
  intro M
  induction M with
  | zero => intro _ m h; omega
  | succ M ih =>
    intro h m hm
    unfold ckM at h
    rw [Bool.and_eq_true] at h
    by_cases e : m = M
    · subst e
      have h1 := h.1
      by_cases a : rtR K d m K 0 0 = m
      · rw [if_pos a] at h1
        exact ⟨fun _ => of_decide_eq_true h1, fun _ => a⟩
      · rw [if_neg a] at h1
        refine ⟨fun q => absurd q a, fun q => ?_⟩
        rw [q] at h1
        exact absurd h1 (by decide)
    · exact ih h.2 m (by omega)
theorem rot_iff {K d m : Nat} (hK : 2 ≤ K ∧ K ≤ 12) (hd : d < K) (hm : m < 2 ^ K) : rtR K d m K 0 0 = m ↔ m % rpR K d = 0 := by
  have h : ckM K d (2 ^ K) = true := by
    have c : K = 2 ∨ K = 3 ∨ K = 4 ∨ K = 5 ∨ K = 6 ∨ K = 7 ∨ K = 8 ∨ K = 9 ∨ K = 10 ∨ K = 11 ∨ K = 12 := by omega
    rcases c with rfl | rfl | rfl | rfl | rfl | rfl | rfl | rfl | rfl | rfl | rfl
    · have c : d = 0 ∨ d = 1 := by omega
      rcases c with rfl | rfl
      · exact ck2_0
      · exact ck2_1
    · have c : d = 0 ∨ d = 1 ∨ d = 2 := by omega
      rcases c with rfl | rfl | rfl
      · exact ck3_0
      · exact ck3_1
      · exact ck3_2
    · have c : d = 0 ∨ d = 1 ∨ d = 2 ∨ d = 3 := by omega
      rcases c with rfl | rfl | rfl | rfl
      · exact ck4_0
      · exact ck4_1
      · exact ck4_2
      · exact ck4_3
    · have c : d = 0 ∨ d = 1 ∨ d = 2 ∨ d = 3 ∨ d = 4 := by omega
      rcases c with rfl | rfl | rfl | rfl | rfl
      · exact ck5_0
      · exact ck5_1
      · exact ck5_2
      · exact ck5_3
      · exact ck5_4
    · have c : d = 0 ∨ d = 1 ∨ d = 2 ∨ d = 3 ∨ d = 4 ∨ d = 5 := by omega
      rcases c with rfl | rfl | rfl | rfl | rfl | rfl
      · exact ck6_0
      · exact ck6_1
      · exact ck6_2
      · exact ck6_3
      · exact ck6_4
      · exact ck6_5
    · have c : d = 0 ∨ d = 1 ∨ d = 2 ∨ d = 3 ∨ d = 4 ∨ d = 5 ∨ d = 6 := by omega
      rcases c with rfl | rfl | rfl | rfl | rfl | rfl | rfl
      · exact ck7_0
      · exact ck7_1
      · exact ck7_2
      · exact ck7_3
      · exact ck7_4
      · exact ck7_5
      · exact ck7_6
    · have c : d = 0 ∨ d = 1 ∨ d = 2 ∨ d = 3 ∨ d = 4 ∨ d = 5 ∨ d = 6 ∨ d = 7 := by omega
      rcases c with rfl | rfl | rfl | rfl | rfl | rfl | rfl | rfl
      · exact ck8_0
      · exact ck8_1
      · exact ck8_2
      · exact ck8_3
      · exact ck8_4
      · exact ck8_5
      · exact ck8_6
      · exact ck8_7
    · have c : d = 0 ∨ d = 1 ∨ d = 2 ∨ d = 3 ∨ d = 4 ∨ d = 5 ∨ d = 6 ∨ d = 7 ∨ d = 8 := by omega
      rcases c with rfl | rfl | rfl | rfl | rfl | rfl | rfl | rfl | rfl
      · exact ck9_0
      · exact ck9_1
      · exact ck9_2
      · exact ck9_3
      · exact ck9_4
      · exact ck9_5
      · exact ck9_6
      · exact ck9_7
      · exact ck9_8
    · have c : d = 0 ∨ d = 1 ∨ d = 2 ∨ d = 3 ∨ d = 4 ∨ d = 5 ∨ d = 6 ∨ d = 7 ∨ d = 8 ∨ d = 9 := by omega
      rcases c with rfl | rfl | rfl | rfl | rfl | rfl | rfl | rfl | rfl | rfl
      · exact ck10_0
      · exact ck10_1
      · exact ck10_2
      · exact ck10_3
      · exact ck10_4
      · exact ck10_5
      · exact ck10_6
      · exact ck10_7
      · exact ck10_8
      · exact ck10_9
    · have c : d = 0 ∨ d = 1 ∨ d = 2 ∨ d = 3 ∨ d = 4 ∨ d = 5 ∨ d = 6 ∨ d = 7 ∨ d = 8 ∨ d = 9 ∨ d = 10 := by omega
      rcases c with rfl | rfl | rfl | rfl | rfl | rfl | rfl | rfl | rfl | rfl | rfl
      · exact ck11_0
      · exact ck11_1
      · exact ck11_2
      · exact ck11_3
      · exact ck11_4
      · exact ck11_5
      · exact ck11_6
      · exact ck11_7
      · exact ck11_8
      · exact ck11_9
      · exact ck11_10
    · have c : d = 0 ∨ d = 1 ∨ d = 2 ∨ d = 3 ∨ d = 4 ∨ d = 5 ∨ d = 6 ∨ d = 7 ∨ d = 8 ∨ d = 9 ∨ d = 10 ∨ d = 11 := by omega
      rcases c with rfl | rfl | rfl | rfl | rfl | rfl | rfl | rfl | rfl | rfl | rfl | rfl
      · exact ck12_0
      · exact ck12_1
      · exact ck12_2
      · exact ck12_3
      · exact ck12_4
      · exact ck12_5
      · exact ck12_6
      · exact ck12_7
      · exact ck12_8
      · exact ck12_9
      · exact ck12_10
      · exact ck12_11
  exact ckM_at _ h m hm
