/-! ===== hall: the reference's tokens ===== -/
def isLt (c : Nat) : Bool := (decide (97 ≤ c) && decide (c ≤ 122)) || (decide (c = 44) || decide (c = 59))
theorem isLt_iff {c : Nat} : isLt c = true ↔ (97 ≤ c ∧ c ≤ 122) ∨ c = 44 ∨ c = 59 := by
  unfold isLt
  simp
def BTr (σ : kS) (t : Nat → Nat) (n : Nat) : Prop := n ≤ 120 ∧ σ 55 8 = nI n ∧ ∀ i, i < n → σ 61 i = nI (t i) ∧ t i < 256
def Fr5 (τ υ : kS) : Prop := ∀ c j, ¬ (c = 55 ∧ 10 ≤ j ∧ j ≤ 13) → υ c j = τ c j
theorem Fr5.st {τ υ : kS} {j : Nat} {v : Int32} (h : Fr5 τ υ) (hj : 10 ≤ j ∧ j ≤ 13) : Fr5 τ (st2 υ 55 j v) := fun c k q => by
  rw [st2_app, if_neg (by omega), h c k q]
theorem Fr5.sc {τ υ : kS} (h : Fr5 τ υ) : Sc τ υ := fun c k q => h c k (fun e => q (by unfold scr; omega))
theorem BTr.sc {σ τ : kS} {t : Nat → Nat} {n : Nat} (h : Sc σ τ) (hB : BTr σ t n) : BTr τ t n := by
  refine ⟨hB.1, ?_, fun i hi => ?_⟩
  · rw [h 55 8 (by unfold scr; omega), hB.2.1]
  · rw [h 61 i (by unfold scr; omega)]; exact hB.2.2 i hi
def TKn (τ : kS) (t : Nat → Nat) (n i : Nat) : Prop := τ 55 13 = nI i ∧ (i = n → τ 55 11 = 3) ∧ (i < n → figN t n i = 0 → τ 55 12 = nI (t i) ∧ τ 55 10 = nI (i + 1) ∧ τ 55 11 = (if isLt (t i) = true then 1 else 0)) ∧ (figN t n i = 1 ∨ figN t n i = 2 → τ 55 11 = 2 ∧ τ 55 12 = nI (vlN t n i) ∧ τ 55 10 = nI (i + figN t n i)) ∧ (figN t n i = 3 → τ 55 11 = 0)
theorem TKn.cong {τ υ : kS} {t : Nat → Nat} {n i : Nat} (h : ∀ j, 10 ≤ j → j ≤ 13 → υ 55 j = τ 55 j) (hT : TKn τ t n i) : TKn υ t n i := by
  unfold TKn
  rw [h 10 (by omega) (by omega), h 11 (by omega) (by omega), h 12 (by omega) (by omega), h 13 (by omega) (by omega)]
  exact hT
theorem fig_0 {t : Nat → Nat} {n i : Nat} (h : fgN t n i = false) : figN t n i = 0 := by
  unfold figN
  rw [h, if_neg (by decide)]
theorem fig_1 {t : Nat → Nat} {n i : Nat} (h : fgN t n i = true) (h1 : fgN t n (i + 1) = false) : figN t n i = 1 := by
  unfold figN
  rw [h, if_pos rfl, h1, if_neg (by decide)]
theorem fig_2 {t : Nat → Nat} {n i : Nat} (h : fgN t n i = true) (h1 : fgN t n (i + 1) = true) (h2 : fgN t n (i + 2) = false) : figN t n i = 2 := by
  unfold figN
  rw [h, if_pos rfl, h1, if_pos rfl, h2, if_neg (by decide)]
theorem fig_3 {t : Nat → Nat} {n i : Nat} (h : fgN t n i = true) (h1 : fgN t n (i + 1) = true) (h2 : fgN t n (i + 2) = true) : figN t n i = 3 := by
  unfold figN
  rw [h, if_pos rfl, h1, if_pos rfl, h2, if_pos rfl]
theorem fig_cases (t : Nat → Nat) (n i : Nat) : (figN t n i = 0 ∧ fgN t n i = false) ∨ ((figN t n i = 1 ∨ figN t n i = 2) ∧ fgN t n i = true) ∨ (figN t n i = 3 ∧ fgN t n i = true) := by
  cases a : fgN t n i
  · exact Or.inl ⟨fig_0 a, rfl⟩
  · cases b : fgN t n (i + 1)
    · exact Or.inr (Or.inl ⟨Or.inl (fig_1 a b), rfl⟩)
    · cases c : fgN t n (i + 2)
      · exact Or.inr (Or.inl ⟨Or.inr (fig_2 a b c), rfl⟩)
      · exact Or.inr (Or.inr ⟨fig_3 a b c, rfl⟩)
section TR
variable {N : Nat} {σ τ : kS} {t : Nat → Nat} {n i : Nat} {Q : Int32 → kS → Prop} {Qv : kS → Prop} {Es : kS → Prop}
theorem l_nt {x11 : Int32} (hB : BTr σ t n) (kk : ∀ υ j, Fr5 σ υ → υ 55 10 = nI j → υ 55 13 = nI i → υ 55 11 = x11 → i ≤ j → j ≤ n → (∀ k, i ≤ k → k < j → fgN t n k = true) → fgN t n j = false → (j = i + 1 → υ 55 12 = nI (t i - 48)) → (j = i + 2 → υ 55 12 = nI (10 * (t i - 48) + (t (i + 1) - 48))) → Es υ) : ∀ (r j f : Nat) (τ : kS), j + r = n → r < f → i ≤ j → Fr5 σ τ → τ 55 10 = nI j → τ 55 13 = nI i → τ 55 11 = x11 → (∀ k, i ≤ k → k < j → fgN t n k = true) → (j = i → τ 55 12 = 0) → (j = i + 1 → τ 55 12 = nI (t i - 48)) → (j = i + 2 → τ 55 12 = nI (10 * (t i - 48) + (t (i + 1) - 48))) → l_X7_nextToken_33 N Qv Es f τ := by
  have hn := hB.1
  intro r
  induction r with
  | zero =>
    intro j f τ hj hf hij hF h10 h13 h11 hd v0 v1 v2
    obtain ⟨f, rfl⟩ : ∃ j, f = j + 1 := ⟨f - 1, by omega⟩
    have h8 : τ 55 8 = nI n := by rw [hF 55 8 (by omega), hB.2.1]
    show b_X7_nextToken_33 N Qv Es _ τ
    unfold b_X7_nextToken_33
    rw [h8, h10, if_pos ((z_le (by omega) (by omega)).mpr (by omega))]
    refine kk τ j hF h10 h13 h11 hij (by omega) hd ?_ v1 v2
    cases c : fgN t n j
    · rfl
    · have := (fg_iff.mp c).1
      omega
  | succ r ih =>
    intro j f τ hj hf hij hF h10 h13 h11 hd v0 v1 v2
    obtain ⟨f, rfl⟩ : ∃ j, f = j + 1 := ⟨f - 1, by omega⟩
    have h8 : τ 55 8 = nI n := by rw [hF 55 8 (by omega), hB.2.1]
    have tj : τ 61 j = nI (t j) := by rw [hF 61 j (by omega), (hB.2.2 j (by omega)).1]
    have tl := (hB.2.2 j (by omega)).2
    have vj : vp_in (nI j) 120 := vp_in_nI (by omega) (by decide)
    have cj : (nI j).toNatClampNeg = j := nI_clamp (by omega)
    show b_X7_nextToken_33 N Qv Es _ τ
    unfold b_X7_nextToken_33
    rw [h8, h10, if_neg (fun q => absurd ((z_le (by omega) (by omega)).mp q) (by omega)), cj, tj, t_in32 48 57 (show (48 : Int64).toInt = 48 by decide) (show (57 : Int64).toInt = 57 by decide), nI_toInt (by omega)]
    refine ⟨vj, ?_⟩
    by_cases e : (48 : Int) ≤ (t j : Int) ∧ (t j : Int) ≤ 57
    · rw [if_pos e]
      have fj : fgN t n j = true := fg_iff.mpr (by omega)
      have nx : ∀ v : Int32, (j = i → v = nI (t i - 48)) → (j = i + 1 → v = nI (10 * (t i - 48) + (t (i + 1) - 48))) → l_X7_nextToken_33 N Qv Es f (st2 (st2 τ 55 12 v) 55 10 (nI (j + 1))) := by
        intro v w1 w2
        refine ih (j + 1) f _ (by omega) (by omega) (by omega) ((hF.st (by omega)).st (by omega)) ?_ ?_ ?_ (fun k k1 k2 => ?_) (fun q => by omega) (fun q => ?_) (fun q => ?_)
        · rw [st2_app, if_pos ⟨rfl, rfl⟩]
        · rw [st2_app, if_neg (by omega), st2_app, if_neg (by omega), h13]
        · rw [st2_app, if_neg (by omega), st2_app, if_neg (by omega), h11]
        · by_cases c : k = j
          · subst c; exact fj
          · exact hd k k1 (by omega)
        · rw [st2_app, if_neg (by omega), st2_app, if_pos ⟨rfl, rfl⟩]
          exact w1 (by omega)
        · rw [st2_app, if_neg (by omega), st2_app, if_pos ⟨rfl, rfl⟩]
          exact w2 (by omega)
      have o10 : ∀ v, st2 τ 55 12 v 55 10 + 1 = nI (j + 1) := fun v => by rw [st2_app, if_neg (by omega), h10, lit_1, nI_add]
      simp only [z10, if_false, h10, cj, tj, forall_eq, o10]
      by_cases b : τ 55 12 ≤ 99
      · rw [if_pos b]
        refine ⟨vj, nx _ (fun q => ?_) (fun q => ?_)⟩
        · rw [v0 q, lit_10, lit_0, lit_48, pk_mul, nI_add, Nat.mul_zero, Nat.zero_add, pk_sub (by omega), q]
        · have ti := fg_iff.mp (hd i (by omega) (by omega))
          rw [v1 q, lit_10, lit_48, pk_mul, nI_add, pk_sub (by omega), q]
          rw [q] at e
          congr 1
          omega
      · rw [if_neg b]
        refine nx _ (fun q => ?_) (fun q => ?_)
        · rw [v0 q] at b
          exact absurd (show (0 : Int32) ≤ 99 by decide) b
        · have ti := fg_iff.mp (hd i (by omega) (by omega))
          rw [v1 q, lit_99, z_le (by omega) (by omega)] at b
          omega
    · rw [if_neg e, if_pos rfl]
      refine kk τ j hF h10 h13 h11 hij (by omega) hd ?_ v1 v2
      cases c : fgN t n j
      · rfl
      · have := fg_iff.mp c
        exact absurd (show (48 : Int) ≤ (t j : Int) ∧ (t j : Int) ≤ 57 by omega) e
theorem t_next (hN : 5000 ≤ N) (hB : BTr σ t n) (h10 : σ 55 10 = nI i) (hi : i ≤ n) (kk : ∀ υ, Fr5 σ υ → TKn υ t n i → Qv υ) : w_X7_nextToken N σ Qv := by
  have hn := hB.1
  unfold w_X7_nextToken
  simp only [forall_eq]
  have F0 : Fr5 σ (st2 σ 55 13 (nI i)) := fun c j q => by rw [st2_app, if_neg (by omega)]
  have o10 : st2 σ 55 13 (nI i) 55 10 = nI i := by rw [st2_app, if_neg (by omega), h10]
  have o8 : st2 σ 55 13 (nI i) 55 8 = nI n := by rw [st2_app, if_neg (by omega), hB.2.1]
  rw [h10, o10, o8]
  have bd : ∀ x11 : Int32, (i = n → x11 = 3) → (i < n → x11 = 0) → l_X7_nextToken_33 N Qv (fun (σ_12 : kS) => j_X7_nextToken_119 N Qv σ_12) N (st2 (st2 (st2 σ 55 13 (nI i)) 55 11 x11) 55 12 0) := by
    intro x11 e3 e0
    refine l_nt (i := i) (x11 := x11) hB (fun υ j hF g10 g13 g11 hij hjn hd hnd w1 w2 => ?_) (n - i) i N _ (by omega) (by omega) (by omega) ((F0.st (by omega)).st (by omega)) ?_ ?_ ?_ (fun k k1 k2 => by omega) (fun _ => ?_) (fun q => by omega) (fun q => by omega)
    · unfold j_X7_nextToken_119
      rw [g10, g13, g11]
      by_cases c0 : j = i
      · subst c0
        have z0 := fig_0 hnd
        rw [if_pos ((z_le (by omega) (by omega)).mpr (by omega))]
        by_cases c1 : j = n
        · rw [e3 c1, if_neg (by decide)]
          refine kk υ hF ⟨g13, fun _ => by rw [g11, e3 c1], fun q => by omega, fun q => by omega, fun q => by omega⟩
        · have tj : υ 61 j = nI (t j) := by rw [hF 61 j (by omega), (hB.2.2 j (by omega)).1]
          have tl := (hB.2.2 j (by omega)).2
          have vj : vp_in (nI j) 120 := vp_in_nI (by omega) (by decide)
          have cj : (nI j).toNatClampNeg = j := nI_clamp (by omega)
          have o12 : st2 υ 55 12 (nI (t j)) 55 12 = nI (t j) := by rw [st2_app, if_pos ⟨rfl, rfl⟩]
          have fin : ∀ x : Int32, x = (if isLt (t j) = true then 1 else 0) → Qv (st2 (st2 (st2 υ 55 12 (nI (t j))) 55 11 x) 55 10 (nI (j + 1))) := by
            intro x hx
            refine kk _ (((hF.st (by omega)).st (by omega)).st (by omega)) ⟨?_, fun q => by omega, fun _ _ => ⟨?_, ?_, ?_⟩, fun q => by omega, fun q => by omega⟩
            · rw [st2_app, if_neg (by omega), st2_app, if_neg (by omega), st2_app, if_neg (by omega), g13]
            · rw [st2_app, if_neg (by omega), st2_app, if_neg (by omega), st2_app, if_pos ⟨rfl, rfl⟩]
            · rw [st2_app, if_pos ⟨rfl, rfl⟩]
            · rw [st2_app, if_neg (by omega), st2_app, if_pos ⟨rfl, rfl⟩, hx]
          have o11 : ∀ x, st2 (st2 υ 55 12 (nI (t j))) 55 11 x 55 10 + 1 = nI (j + 1) := fun x => by
            rw [st2_app, if_neg (by omega), st2_app, if_neg (by omega), g10, lit_1, nI_add]
          rw [e0 (by omega), if_pos rfl, cj, tj]
          refine ⟨vj, ?_⟩
          simp only [forall_eq, o12]
          rw [t_in32 97 122 (show (97 : Int64).toInt = 97 by decide) (show (122 : Int64).toInt = 122 by decide), nI_toInt (by omega)]
          simp only [forall_eq, o12, o11, z10, if_false, if_true]
          by_cases b : (97 : Int) ≤ (t j : Int) ∧ (t j : Int) ≤ 122
          · rw [if_pos b]
            refine fin 1 ?_
            rw [if_pos (isLt_iff.mpr (Or.inl (by omega)))]
          · rw [if_neg b, lit_44, lit_59]
            simp only [z_eq (show t j < 2 ^ 31 by omega) (show 44 < 2 ^ 31 by omega), z_eq (show t j < 2 ^ 31 by omega) (show 59 < 2 ^ 31 by omega)]
            by_cases b2 : t j = 44
            · rw [if_pos b2]
              refine fin 1 ?_
              rw [if_pos (isLt_iff.mpr (Or.inr (Or.inl b2)))]
            · rw [if_neg b2]
              by_cases b3 : t j = 59
              · rw [if_pos b3]
                refine fin 1 ?_
                rw [if_pos (isLt_iff.mpr (Or.inr (Or.inr b3)))]
              · rw [if_neg b3]
                refine fin 0 ?_
                rw [if_neg (fun q => by
                  have := isLt_iff.mp q
                  omega)]
      · rw [if_neg (fun q => absurd ((z_le (by omega) (by omega)).mp q) (by omega)), pk_sub hij]
        have fi := hd i (by omega) (by omega)
        have il := (fg_iff.mp fi).1
        simp only [forall_eq]
        rw [lit_2]
        simp only [z_le (show j - i < 2 ^ 31 by omega) (show 2 < 2 ^ 31 by omega)]
        by_cases c1 : j - i ≤ 2
        · rw [if_pos c1]
          have fg : (figN t n i = 1 ∧ j = i + 1) ∨ (figN t n i = 2 ∧ j = i + 2) := by
            by_cases c2 : j = i + 1
            · left
              rw [c2] at hnd
              exact ⟨fig_1 fi hnd, c2⟩
            · right
              have c3 : j = i + 2 := by omega
              rw [c3] at hnd
              exact ⟨fig_2 fi (hd (i + 1) (by omega) (by omega)) hnd, c3⟩
          refine kk _ (hF.st (by omega)) ⟨?_, fun q => by omega, fun _ q => by omega, fun _ => ⟨?_, ?_, ?_⟩, fun q => by omega⟩
          · rw [st2_app, if_neg (by omega), g13]
          · rw [st2_app, if_pos ⟨rfl, rfl⟩]
            rfl
          · rw [st2_app, if_neg (by omega)]
            unfold vlN
            rcases fg with ⟨f1, f2⟩ | ⟨f1, f2⟩
            · rw [if_pos f1]; exact w1 f2
            · rw [if_neg (by omega)]; exact w2 f2
          · rw [st2_app, if_neg (by omega), g10]
            rcases fg with ⟨f1, f2⟩ | ⟨f1, f2⟩
            · rw [f1, f2]
            · rw [f1, f2]
        · rw [if_neg c1]
          have f3 := fig_3 fi (hd (i + 1) (by omega) (by omega)) (hd (i + 2) (by omega) (by omega))
          refine kk _ (hF.st (by omega)) ⟨?_, fun q => by omega, fun _ q => by omega, fun q => by omega, fun _ => ?_⟩
          · rw [st2_app, if_neg (by omega), g13]
          · rw [st2_app, if_pos ⟨rfl, rfl⟩]
    · rw [st2_app, if_neg (by omega), st2_app, if_neg (by omega), o10]
    · rw [st2_app, if_neg (by omega), st2_app, if_neg (by omega), st2_app, if_pos ⟨rfl, rfl⟩]
    · rw [st2_app, if_neg (by omega), st2_app, if_pos ⟨rfl, rfl⟩]
    · rw [st2_app, if_pos ⟨rfl, rfl⟩]
  by_cases e : i = n
  · rw [if_pos (by rw [e])]
    exact bd 3 (fun _ => rfl) (fun q => by omega)
  · rw [if_neg (fun q => e ((z_eq (by omega) (by omega)).mp q))]
    exact bd 0 (fun q => absurd q e) (fun _ => rfl)
theorem t_isL {c : Nat} (hB : BTr τ t n) (hT : TKn τ t n i) (hi : i ≤ n) (hc : isLt c = true) (hc2 : c < 256) : w_X7_isLetter N τ (nI c) Q = if i < n ∧ t i = c then Q 1 τ else Q 0 τ := by
  have hn := hB.1
  obtain ⟨-, g3, g0, g2, gx⟩ := hT
  have cl := isLt_iff.mp hc
  unfold w_X7_isLetter
  rcases fig_cases t n i with ⟨f0, f1⟩ | ⟨f0, f1⟩ | ⟨f0, f1⟩
  · by_cases e : i < n
    · obtain ⟨a1, a2, a3⟩ := g0 e f0
      have tl := (hB.2.2 i e).2
      rw [a1, a3]
      by_cases b : t i = c
      · rw [b, hc, if_pos rfl, if_pos rfl, if_pos rfl, if_pos ⟨e, rfl⟩]
      · have b1 : ¬ (i < n ∧ t i = c) := fun q => b q.2
        have b2 : ¬ nI (t i) = nI c := fun q => b ((z_eq (by omega) (by omega)).mp q)
        rw [if_neg b1, if_neg b2]
        split <;> rfl
    · rw [g3 (by omega), if_neg (by decide), if_neg (fun q => e q.1)]
  · have := fg_iff.mp f1
    rw [(g2 f0).1, if_neg (by decide), if_neg (fun q => by omega)]
  · have := fg_iff.mp f1
    rw [gx f0, if_neg (by decide), if_neg (fun q => by omega)]
theorem t_takes {c : Nat} (hN : 5000 ≤ N) (hB : BTr τ t n) (hT : TKn τ t n i) (hi : i ≤ n) (hc : isLt c = true) (hc2 : c < 256) (k1 : i < n → t i = c → ∀ υ, Fr5 τ υ → TKn υ t n (i + 1) → Q 1 υ) (k0 : ¬ (i < n ∧ t i = c) → Q 0 (st2 τ 55 14 1)) : w_X7_takes N τ (nI c) Q := by
  unfold w_X7_takes
  rw [t_isL hB hT hi hc hc2]
  by_cases e : i < n ∧ t i = c
  · rw [if_pos e]
    simp only [z10, if_false]
    have f0 : figN t n i = 0 := by
      refine fig_0 ?_
      cases d : fgN t n i
      · rfl
      · have := fg_iff.mp d
        have cl := isLt_iff.mp hc
        omega
    exact t_next hN hB (hT.2.2.1 e.1 f0).2.1 (by omega) (k1 e.1 e.2)
  · rw [if_neg e, if_pos rfl]
    unfold w_X7_faults
    simp only [forall_eq]
    exact ⟨by simp, k0 e⟩
theorem t_takesN {lo hi a c : Nat} (hN : 5000 ≤ N) (hB : BTr τ t n) (hT : TKn τ t n i) (hi' : i ≤ n) (hc : isLt c = true) (hc2 : c < 256) (hl : lo < 1000) (hh : hi < 1000) (ha : a < 57)
    (k0 : ∀ k j υ, k ≠ 0 → Sc τ υ → υ 55 13 = nI j → υ 55 14 = nI k → (∀ f : Nat → Nat → PRs, pNu t n lo hi i (fun v i1 => pBy t n c i1 (f v)) = (k, j, zFn)) → Q 0 υ)
    (k1 : figN t n i = 1 ∨ figN t n i = 2 → lo ≤ vlN t n i ∧ vlN t n i ≤ hi → i + figN t n i < n → t (i + figN t n i) = c → ∀ υ, Sc τ υ → TKn υ t n (i + figN t n i + 1) → (∀ j, υ 62 j = if j = a then nI (vlN t n i) else τ 62 j) → Q 1 υ) : w_X7_takesNumber N τ (nI lo) (nI hi) (nI a) (nI c) Q := by
  have hn := hB.1
  have il : ∀ x, x < 1000 → ((nI x).toInt64).toInt = (x : Int) := fun x hx => by rw [Int32.toInt_toInt64, nI_toInt (by omega)]
  have va : vp_in (nI a) 57 := vp_in_nI ha (by decide)
  have ca : (nI a).toNatClampNeg = a := nI_clamp (by omega)
  have h13 := hT.1
  have fa : ∀ k : Nat, k ≠ 0 → (∀ f : Nat → Nat → PRs, pNu t n lo hi i (fun v i1 => pBy t n c i1 (f v)) = (k, i, zFn)) → Q 0 (st2 τ 55 14 (nI k)) := fun k hk e => by
    refine k0 k i _ hk (Sc.rf.st (by unfold scr; omega)) ?_ ?_ e
    · rw [st2_app, if_neg (by omega), h13]
    · rw [st2_app, if_pos ⟨rfl, rfl⟩]
  unfold w_X7_takesNumber
  by_cases e : figN t n i = 1 ∨ figN t n i = 2
  · obtain ⟨a1, a2, a3⟩ := hT.2.2.2.1 e
    have fl := (fig_le (t := t) (n := n) (i := i) hi').resolve_right (by omega)
    have fg : fgN t n i = true := by
      rcases fig_cases t n i with ⟨f0, -⟩ | ⟨-, f1⟩ | ⟨f0, -⟩
      · omega
      · exact f1
      · omega
    have dg := fg_iff.mp fg
    have vl : vlN t n i < 1000 := by
      unfold vlN
      by_cases q : figN t n i = 1
      · rw [if_pos q]; omega
      · rw [if_neg q]
        have := (hB.2.2 (i + 1) (by omega)).2
        omega
    rw [a1, if_pos (by decide), a2, t_in32 (lo : Int) (hi : Int) (il lo hl) (il hi hh), nI_toInt (by omega)]
    by_cases b : lo ≤ vlN t n i ∧ vlN t n i ≤ hi
    · rw [if_pos (by omega)]
      simp only [z10, if_false, va, ca, true_and, forall_eq]
      obtain ⟨τ1, hτ1⟩ : ∃ τ1, τ1 = st2 τ 62 a (τ 55 12) := ⟨_, rfl⟩
      rw [← hτ1]
      have S1 : Sc τ τ1 := by rw [hτ1]; exact Sc.rf.st (by unfold scr; omega)
      have q10 : τ1 55 10 = nI (i + figN t n i) := by rw [hτ1, st2_app, if_neg (by omega), a3]
      refine t_next hN (hB.sc S1) q10 fl (fun υ uF uT => ?_)
      have S2 : Sc τ υ := S1.tr uF.sc
      refine t_takes hN (hB.sc S2) uT fl hc hc2 (fun b1 b2 ω wF wT => ⟨Or.inr rfl, k1 e b b1 b2 ω (S2.tr wF.sc) wT (fun j => ?_)⟩) (fun b1 => ⟨Or.inl rfl, ?_⟩)
      · rw [wF 62 j (by omega), uF 62 j (by omega), hτ1, st2_app, a2]
        by_cases q : j = a
        · rw [if_pos ⟨rfl, q⟩, if_pos q]
        · rw [if_neg (fun z => q z.2), if_neg q]
      · refine k0 1 (i + figN t n i) _ (by omega) (S2.st (by unfold scr; omega)) ?_ ?_ (fun f => ?_)
        · rw [st2_app, if_neg (by omega), uT.1]
        · rw [st2_app, if_pos ⟨rfl, rfl⟩]
          rfl
        · rw [pNu_t e b, pBy_f b1]
    · rw [if_neg (by omega), if_pos rfl]
      unfold j_X7_takesNumber_23 w_X7_faults
      rw [a1, if_pos (by decide)]
      simp only [forall_eq]
      refine ⟨by simp, fa 2 (by omega) (fun f => ?_)⟩
      unfold pNu
      rw [if_pos e, if_neg b]
  · have ne : ¬ τ 55 11 = 2 := by
      rcases fig_cases t n i with ⟨f0, f1⟩ | ⟨f0, f1⟩ | ⟨f0, f1⟩
      · by_cases q : i < n
        · rw [(hT.2.2.1 q f0).2.2]
          split <;> decide
        · rw [hT.2.1 (by omega)]
          decide
      · exact absurd f0 e
      · rw [hT.2.2.2.2 f0]
        decide
    rw [if_neg ne]
    unfold j_X7_takesNumber_23 w_X7_faults
    rw [if_neg ne]
    simp only [forall_eq]
    refine ⟨by simp, fa 1 (by omega) (fun f => ?_)⟩
    unfold pNu
    rw [if_neg e]
end TR
