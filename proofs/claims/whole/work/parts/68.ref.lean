/-! ===== hall: the reference reads ===== -/
def MRd (τ : kS) (H : Nat → Nat) : Prop := ∀ j, j < 57 → τ 62 j = nI (H j)
def RFk (σ : kS) (R : PRs) (Q : Int32 → kS → Prop) : Prop := (R.1 = 0 → ∀ υ, Sc σ υ → MRd υ R.2.2 → Q 1 υ) ∧ (R.1 ≠ 0 → ∀ υ, Sc σ υ → υ 55 13 = nI R.2.1 → υ 55 14 = nI R.1 → Q 0 υ)
theorem RFk.f {σ υ : kS} {R : PRs} {Q : Int32 → kS → Prop} {k j : Nat} (h : RFk σ R Q) (e : R = (k, j, zFn)) (hk : k ≠ 0) (hS : Sc σ υ) (h13 : υ 55 13 = nI j) (h14 : υ 55 14 = nI k) : Q 0 υ := by
  subst e
  exact h.2 hk υ hS h13 h14
theorem kd_let {c : Nat} (h : kdN c ≠ 0) : c = 99 ∨ c = 109 ∨ c = 112 ∨ c = 115 ∨ c = 118 := by
  unfold kdN at h
  by_cases a1 : c = 99
  · omega
  · by_cases a2 : c = 109
    · omega
    · by_cases a3 : c = 112
      · omega
      · by_cases a4 : c = 115
        · omega
        · by_cases a5 : c = 118
          · omega
          · rw [if_neg a1, if_neg a2, if_neg a3, if_neg a4, if_neg a5] at h
            exact absurd rfl h
theorem fig_let {t : Nat → Nat} {n i : Nat} (h : 58 ≤ t i) : figN t n i = 0 := by
  refine fig_0 ?_
  cases d : fgN t n i
  · rfl
  · have := fg_iff.mp d
    omega
section RF
variable {N : Nat} {σ τ : kS} {t : Nat → Nat} {n i : Nat} {H : Nat → Nat} {Q : Int32 → kS → Prop} {Qv : kS → Prop} {Es : kS → Prop} {K : Int32 → kS → Prop}
theorem rh0 {f : Nat} (h : Q 0 τ) : l_X7_readHall_94 N Q (f + 1) 0 τ := by
  show b_X7_readHall_94 N Q _ 0 τ
  unfold b_X7_readHall_94
  rw [if_pos rfl]
  exact ⟨Or.inl rfl, h⟩
theorem t_kindE (hT : TKn τ t n i) (hi : i = n) : b_X7_readHall_94 N Q K 1 τ = Q 1 τ := by
  unfold b_X7_readHall_94
  rw [if_neg (by decide), if_pos (hT.2.1 hi)]
  simp
theorem t_kinds (hB : BTr τ t n) (hT : TKn τ t n i) (hi : i < n) : b_X7_readHall_94 N Q K 1 τ = j_X7_readHall_172 N Q (nI (kdN (t i))) K τ := by
  have n3 : ¬ τ 55 11 = 3 := by
    rcases fig_cases t n i with ⟨f0, f1⟩ | ⟨f0, f1⟩ | ⟨f0, f1⟩
    · rw [(hT.2.2.1 hi f0).2.2]
      split <;> decide
    · rw [(hT.2.2.2.1 f0).1]
      decide
    · rw [hT.2.2.2.2 f0]
      decide
  have il : ∀ c Q, isLt c = true → c < 256 → w_X7_isLetter N τ (nI c) Q = if t i = c then Q 1 τ else Q 0 τ := fun c Q h1 h2 => by
    rw [t_isL hB hT (by omega) h1 h2]
    by_cases e : t i = c
    · rw [if_pos ⟨hi, e⟩, if_pos e]
    · rw [if_neg (fun q => e q.2), if_neg e]
  unfold b_X7_readHall_94
  rw [if_neg (by decide), if_neg n3, lit_112, lit_118, lit_115, lit_99, lit_109]
  simp only [il 112 _ (by decide) (by decide), il 118 _ (by decide) (by decide), il 115 _ (by decide) (by decide), il 99 _ (by decide) (by decide), il 109 _ (by decide) (by decide), z10, if_false, if_true]
  unfold kdN
  by_cases a1 : t i = 112
  · simp [a1]
    rfl
  · by_cases a2 : t i = 118
    · simp [a2]
      rfl
    · by_cases a3 : t i = 115
      · simp [a3]
        rfl
      · by_cases a4 : t i = 99
        · simp [a4]
          rfl
        · by_cases a5 : t i = 109
          · simp [a5]
            rfl
          · simp [a1, a2, a3, a4, a5]
            rfl
theorem t_rpup {q : Nat} (hN : 5000 ≤ N) (hB : BTr σ t n) (hS : Sc σ τ) (hT : TKn τ t n i) (hi : i < n) (hk : kdN (t i) ≠ 0) (hM : MRd τ H) (h4 : H 4 = q) (hV : HV H)
    (k0 : ∀ k j υ, k ≠ 0 → Sc σ υ → υ 55 13 = nI j → υ 55 14 = nI k → ppR t n (5 - q) q i H = (k, j, zFn) → Q 0 υ)
    (k1 : q < 5 → ∀ υ i4 v w, Sc σ υ → TKn υ t n i4 → i4 ≤ n → MRd υ (hPp H q (kdN (t i)) v w) → HV (hPp H q (kdN (t i)) v w) → ppR t n (5 - q) q i H = ppR t n (5 - q - 1) (q + 1) i4 (hPp H q (kdN (t i)) v w) → Q 1 υ) : w_X7_readPupil N τ (nI (kdN (t i))) Q := by
  have hn := hB.1
  have hq5 : q ≤ 5 := by
    have := hV.2.2.2.2.1
    omega
  have h0 := hV.1
  have kl := kd_let hk
  have kle := kdN_le (t i)
  have f0 : figN t n i = 0 := fig_let (by omega)
  have tk := hT.2.2.1 hi f0
  unfold w_X7_readPupil
  simp only [cl0, vq0, cl1, vq1, cl2, vq2, cl3, vq3, cl4, vq4, cl5, vq5, true_and, hM 4 (show 4 < 57 by omega), h4, forall_eq]
  by_cases e : q = 5
  · subst e
    rw [if_pos (show nI 5 = 5 from rfl)]
    unfold w_X7_faults
    simp only [forall_eq]
    refine ⟨by simp, k0 3 i _ (by omega) (hS.st (by unfold scr; omega)) ?_ ?_ ?_⟩
    · rw [st2_app, if_neg (by omega), hT.1]
    · rw [st2_app, if_pos ⟨rfl, rfl⟩]
      rfl
    · rw [Nat.sub_self]
      unfold ppR
      rw [if_pos hi, if_neg hk]
  · rw [if_neg (show ¬ nI q = 5 from fun z => e ((z_eq (b := 5) (by omega) (by omega)).mp z))]
    obtain ⟨r, hr⟩ : ∃ r, 5 - q = r + 1 := ⟨5 - q - 1, by omega⟩
    have eR : ppR t n (5 - q) q i H = pNu t n 0 (H 0 - 1) (i + 1) (fun v i1 => pBy t n 44 i1 (fun i2 => pNu t n 1 12 i2 (fun w i3 => pBy t n 59 i3 (fun i4 => ppR t n (5 - q - 1) (q + 1) i4 (hPp H q (kdN (t i)) v w))))) := by
      rw [hr, Nat.add_sub_cancel]
      have : ppR t n (r + 1) q i H = if i < n then (if kdN (t i) = 0 then (1, i, zFn) else pNu t n 0 (H 0 - 1) (i + 1) (fun v i1 => pBy t n 44 i1 (fun i2 => pNu t n 1 12 i2 (fun w i3 => pBy t n 59 i3 (fun i4 => ppR t n r (q + 1) i4 (hPp H q (kdN (t i)) v w)))))) else (0, i, H) := rfl
      rw [this, if_pos hi, if_neg hk]
    rw [eR] at k0 k1
    have e42 : (42 : Int32) + nI q = nI (42 + q) := nI_add 42 q
    have e47 : (47 : Int32) + nI q = nI (47 + q) := nI_add 47 q
    have e52 : (52 : Int32) + nI q = nI (52 + q) := nI_add 52 q
    have v42 : vp_in (nI (42 + q)) 57 := vp_in_nI (by omega) (by decide)
    have c42 : (nI (42 + q)).toNatClampNeg = 42 + q := nI_clamp (by omega)
    refine t_next hN (hB.sc hS) tk.2.1 (by omega) (fun υ uF uT => ?_)
    have S1 : Sc σ υ := hS.tr uF.sc
    have o4 : st2 υ 62 (42 + q) (nI (kdN (t i))) 62 4 + 1 = nI (q + 1) := by
      rw [st2_app, if_neg (by omega), uF 62 4 (by omega), hM 4 (by omega), h4, lit_1, nI_add]
    simp only [e42, v42, c42, true_and, o4]
    obtain ⟨τ2, hτ2⟩ : ∃ τ2, τ2 = st2 (st2 υ 62 (42 + q) (nI (kdN (t i)))) 62 4 (nI (q + 1)) := ⟨_, rfl⟩
    rw [← hτ2]
    have S2 : Sc σ τ2 := by rw [hτ2]; exact (S1.st (by unfold scr; omega)).st (by unfold scr; omega)
    have T2 : TKn τ2 t n (i + 1) := uT.cong (fun j _ _ => by rw [hτ2, st2_app, if_neg (by omega), st2_app, if_neg (by omega)])
    have r0 : τ2 62 0 - 1 = nI (H 0 - 1) := by
      rw [hτ2, st2_app, if_neg (by omega), st2_app, if_neg (by omega), uF 62 0 (by omega), hM 0 (by omega), lit_1, pk_sub (by omega)]
    rw [r0, e47, e52]
    refine t_takesN (lo := 0) (hi := H 0 - 1) (a := 47 + q) (c := 44) hN (hB.sc S2) T2 (by omega) (by decide) (by decide) (by omega) (by omega) (by omega) (fun k j ω hk' wS w13 w14 we => ?_) (fun fe ve b1 b2 ω wS wT w62 => ?_)
    · rw [if_pos rfl]
      exact k0 k j ω hk' (S2.tr wS) w13 w14 (we (fun v i2 => pNu t n 1 12 i2 (fun w i3 => pBy t n 59 i3 (fun i4 => ppR t n (5 - q - 1) (q + 1) i4 (hPp H q (kdN (t i)) v w)))))
    · rw [if_neg (by decide)]
      have S3 : Sc σ ω := S2.tr wS
      obtain ⟨i2, hi2⟩ : ∃ i2, i2 = i + 1 + figN t n (i + 1) + 1 := ⟨_, rfl⟩
      obtain ⟨v, hv⟩ : ∃ v, v = vlN t n (i + 1) := ⟨_, rfl⟩
      have eR2 : pNu t n 0 (H 0 - 1) (i + 1) (fun v i1 => pBy t n 44 i1 (fun i2 => pNu t n 1 12 i2 (fun w i3 => pBy t n 59 i3 (fun i4 => ppR t n (5 - q - 1) (q + 1) i4 (hPp H q (kdN (t i)) v w))))) = pNu t n 1 12 i2 (fun w i3 => pBy t n 59 i3 (fun i4 => ppR t n (5 - q - 1) (q + 1) i4 (hPp H q (kdN (t i)) v w))) := by
        rw [hi2, hv]
        rw [pNu_t fe ve, pBy_t ⟨b1, b2⟩]
      rw [eR2] at k0 k1
      rw [← hi2] at wT
      rw [← hv] at w62 ve
      refine t_takesN (lo := 1) (hi := 12) (a := 52 + q) (c := 59) hN (hB.sc S3) wT (by omega) (by decide) (by decide) (by omega) (by omega) (by omega) (fun k j ρ hk' rS r13 r14 re => ?_) (fun fe' ve' b1' b2' ρ rS rT r62 => ?_)
      · rw [if_pos rfl]
        exact k0 k j ρ hk' (S3.tr rS) r13 r14 (re (fun w i4 => ppR t n (5 - q - 1) (q + 1) i4 (hPp H q (kdN (t i)) v w)))
      · rw [if_neg (by decide)]
        refine k1 (by omega) ρ (i2 + figN t n i2 + 1) v (vlN t n i2) (S3.tr rS) rT (by omega) (fun j hj => ?_) (HV_pp hV h4 (by omega) (by omega) (by omega) ve') ?_
        · rw [r62 j, w62 j, hτ2, st2_app, st2_app]
          unfold hPp
          by_cases q1 : j = 52 + q
          · rw [if_pos q1, if_neg (by omega), if_neg (by omega), if_pos q1]
          · rw [if_neg q1]
            by_cases q2 : j = 47 + q
            · rw [if_pos q2, if_neg (by omega), if_pos q2]
            · rw [if_neg q2]
              by_cases q3 : j = 4
              · rw [if_pos ⟨rfl, q3⟩, if_neg (by omega), if_neg q2, if_neg q1, if_pos q3]
              · rw [if_neg (fun z => q3 z.2)]
                by_cases q4 : j = 42 + q
                · rw [if_pos ⟨rfl, q4⟩, if_pos q4]
                · rw [if_neg (fun z => q4 z.2), if_neg q4, if_neg q2, if_neg q1, if_neg q3, uF 62 j (by omega), hM j hj]
        · rw [pNu_t fe' ve', pBy_t ⟨b1', b2'⟩]
theorem l_rp54 {p K i0 : Nat} {τ0 : kS} (hN : 5000 ≤ N) (hB : BTr σ t n) (hp : p < 4) (hK : 2 ≤ K ∧ K ≤ 12) : ∀ (r l f : Nat) (τ : kS), r + l = 8 → r < f → Sc σ τ → TKn τ t n (i0 + l) → i0 + l ≤ n → τ 62 0 = nI K → τ 62 (6 + p) = nI l → (∀ k, k < l → τ 62 (10 + 8 * p + k) = nI (t (i0 + k) - 97)) → (∀ j, j ≠ 6 + p → ¬ (10 + 8 * p ≤ j ∧ j < 10 + 8 * p + l) → τ 62 j = τ0 62 j) → (∀ υ, Sc σ υ → TKn υ t n (i0 + slR t n K i0 r l) → υ 62 (6 + p) = nI (slR t n K i0 r l) → (∀ k, k < slR t n K i0 r l → υ 62 (10 + 8 * p + k) = nI (t (i0 + k) - 97)) → (∀ j, j ≠ 6 + p → ¬ (10 + 8 * p ≤ j ∧ j < 10 + 8 * p + slR t n K i0 r l) → υ 62 j = τ0 62 j) → Es υ) → l_X7_readPiece_54 N Q (nI p) Es f τ := by
  have hn := hB.1
  have e6 : (6 : Int32) + nI p = nI (6 + p) := nI_add 6 p
  have v6 : vp_in (nI (6 + p)) 57 := vp_in_nI (by omega) (by decide)
  have c6 : (nI (6 + p)).toNatClampNeg = 6 + p := nI_clamp (by omega)
  have hK1 : ((97 + nI K - 1).toInt64).toInt = (96 + K : Int) := by
    rw [Int32.toInt_toInt64, lit_97, nI_add, lit_1, pk_sub (by omega), nI_toInt (by omega)]
    omega
  intro r
  induction r with
  | zero =>
    intro l f τ hl hf hS hT hi h0 h6 hs hF kk
    obtain ⟨f, rfl⟩ : ∃ j, f = j + 1 := ⟨f - 1, by omega⟩
    have fin : Es τ := kk τ hS hT h6 hs hF
    show b_X7_readPiece_54 N Q (nI p) Es _ τ
    unfold b_X7_readPiece_54
    by_cases a : τ 55 11 = 1
    · rw [if_pos a, cl0, h0, t_in32 97 (96 + K : Int) (show (97 : Int64).toInt = 97 by decide) hK1]
      refine ⟨vp_in_nI (n := 0) (by decide) (by decide), ?_⟩
      simp only [e6, v6, c6, true_and, h6, z10, if_false, if_true]
      by_cases b : (97 : Int) ≤ (τ 55 12).toInt ∧ (τ 55 12).toInt ≤ 96 + K
      · rw [if_pos b, lit_8, if_pos ((z_le (by omega) (by omega)).mpr (by omega))]
        exact fin
      · rw [if_neg b]
        exact fin
    · rw [if_neg a]
      exact fin
  | succ r ih =>
    intro l f τ hl hf hS hT hi h0 h6 hs hF kk
    obtain ⟨f, rfl⟩ : ∃ j, f = j + 1 := ⟨f - 1, by omega⟩
    have sl : slR t n K i0 (r + 1) l = if i0 + l < n ∧ 97 ≤ t (i0 + l) ∧ t (i0 + l) < 97 + K then slR t n K i0 r (l + 1) else l := rfl
    rw [sl] at kk
    show b_X7_readPiece_54 N Q (nI p) Es _ τ
    unfold b_X7_readPiece_54
    by_cases e : i0 + l < n ∧ 97 ≤ t (i0 + l) ∧ t (i0 + l) < 97 + K
    · rw [if_pos e] at kk
      have tl := (hB.2.2 _ e.1).2
      obtain ⟨a1, a2, a3⟩ := hT.2.2.1 e.1 (fig_let (by omega))
      have lt : isLt (t (i0 + l)) = true := isLt_iff.mpr (Or.inl (by omega))
      rw [lt, if_pos rfl] at a3
      have e1 : (10 : Int32) + 8 * nI p + nI l = nI (10 + 8 * p + l) := by rw [lit_8, lit_10, pk_mul, nI_add, nI_add]
      have v1 : vp_in (nI (10 + 8 * p + l)) 57 := vp_in_nI (by omega) (by decide)
      have c1 : (nI (10 + 8 * p + l)).toNatClampNeg = 10 + 8 * p + l := nI_clamp (by omega)
      have e2 : nI (t (i0 + l)) - 97 = nI (t (i0 + l) - 97) := by rw [lit_97, pk_sub (by omega)]
      have o6 : st2 τ 62 (10 + 8 * p + l) (nI (t (i0 + l) - 97)) 62 (6 + p) + 1 = nI (l + 1) := by rw [st2_app, if_neg (by omega), h6, lit_1, nI_add]
      rw [if_pos a3, cl0, h0, t_in32 97 (96 + K : Int) (show (97 : Int64).toInt = 97 by decide) hK1, a1, nI_toInt (by omega), if_pos (by omega)]
      refine ⟨vp_in_nI (n := 0) (by decide) (by decide), ?_⟩
      have l8 : ¬ (8 : Int32) ≤ nI l := fun q => absurd ((z_le (a := 8) (by omega) (by omega)).mp q) (by omega)
      simp only [e6, v6, c6, true_and, h6, z10, if_false, l8, e1, v1, c1, a1, e2, forall_eq, o6]
      obtain ⟨τ1, hτ1⟩ : ∃ τ1, τ1 = st2 (st2 τ 62 (10 + 8 * p + l) (nI (t (i0 + l) - 97))) 62 (6 + p) (nI (l + 1)) := ⟨_, rfl⟩
      rw [← hτ1]
      have S1 : Sc σ τ1 := by rw [hτ1]; exact (hS.st (by unfold scr; omega)).st (by unfold scr; omega)
      have q10 : τ1 55 10 = nI (i0 + (l + 1)) := by rw [hτ1, st2_app, if_neg (by omega), st2_app, if_neg (by omega), a2, Nat.add_assoc]
      refine t_next hN (hB.sc S1) q10 (by omega) (fun υ uF uT => ?_)
      refine ih (l + 1) f υ (by omega) (by omega) (S1.tr uF.sc) uT (by omega) ?_ ?_ (fun k hk => ?_) (fun j q1 q2 => ?_) kk
      · rw [uF 62 0 (by omega), hτ1, st2_app, if_neg (by omega), st2_app, if_neg (by omega), h0]
      · rw [uF 62 (6 + p) (by omega), hτ1, st2_app, if_pos ⟨rfl, rfl⟩]
      · rw [uF 62 _ (by omega), hτ1, st2_app, if_neg (by omega), st2_app]
        by_cases c : k = l
        · subst c
          rw [if_pos ⟨rfl, rfl⟩]
        · rw [if_neg (by omega)]
          exact hs k (by omega)
      · rw [uF 62 j (by omega), hτ1, st2_app, if_neg (fun z => q1 z.2), st2_app, if_neg (by omega), hF j q1 (by omega)]
    · rw [if_neg e] at kk
      have fin : Es τ := kk τ hS hT h6 hs hF
      by_cases a : τ 55 11 = 1
      · rw [if_pos a, cl0, h0, t_in32 97 (96 + K : Int) (show (97 : Int64).toInt = 97 by decide) hK1]
        refine ⟨vp_in_nI (n := 0) (by decide) (by decide), ?_⟩
        have nb : ¬ ((97 : Int) ≤ (τ 55 12).toInt ∧ (τ 55 12).toInt ≤ 96 + K) := by
          rcases fig_cases t n (i0 + l) with ⟨f0, f1⟩ | ⟨f0, f1⟩ | ⟨f0, f1⟩
          · by_cases q : i0 + l < n
            · have tl := (hB.2.2 _ q).2
              rw [(hT.2.2.1 q f0).1, nI_toInt (by omega)]
              intro z
              exact e ⟨q, by omega, by omega⟩
            · rw [hT.2.1 (by omega)] at a
              exact absurd a (by decide)
          · rw [(hT.2.2.2.1 f0).1] at a
            exact absurd a (by decide)
          · rw [hT.2.2.2.2 f0] at a
            exact absurd a (by decide)
        rw [if_neg nb, if_pos rfl]
        exact fin
      · rw [if_neg a]
        exact fin
theorem t_rpcA {q : Nat} (hS : Sc σ τ) (hT : TKn τ t n i) (hM : MRd τ H) (h4 : H 4 = q) (hq : 0 < q) (hV : HV H) (k0 : ∀ υ, Sc σ υ → υ 55 13 = nI i → υ 55 14 = nI 1 → Q 0 υ) : w_X7_readPiece N τ Q := by
  have h3 := hV.2.2.2.1
  have h5 := hV.2.2.2.2.1
  have ng : ¬ nI q ≤ 0 := nI_nle hq (by omega)
  have j21 : j_X7_readPiece_21 N Q τ := by
    unfold j_X7_readPiece_21 w_X7_faults
    simp only [cl0, vq0, cl1, vq1, cl2, vq2, cl3, vq3, cl4, vq4, cl5, vq5, true_and, hM 4 (show 4 < 57 by omega), h4, ng, if_false, forall_eq]
    refine ⟨by simp, k0 _ (hS.st (by unfold scr; omega)) ?_ ?_⟩
    · rw [st2_app, if_neg (by omega), hT.1]
    · rw [st2_app, if_pos ⟨rfl, rfl⟩]
      rfl
  unfold w_X7_readPiece
  simp only [cl0, vq0, cl1, vq1, cl2, vq2, cl3, vq3, cl4, vq4, cl5, vq5, true_and, hM 3 (show 3 < 57 by omega), hM 4 (show 4 < 57 by omega), h4, ng, if_false, forall_eq]
  split
  · exact j21
  · exact j21
theorem t_rpcB {p : Nat} (hN : 5000 ≤ N) (hB : BTr σ t n) (hS : Sc σ τ) (hT : TKn τ t n i) (hi : i < n) (ht : t i = 116) (hM : MRd τ H) (h3 : H 3 = p) (h4 : H 4 = 0) (hV : HV H) (hz : ∀ p', p ≤ p' → p' < 4 → H (6 + p') = 0)
    (k0 : ∀ k j υ, k ≠ 0 → Sc σ υ → υ 55 13 = nI j → υ 55 14 = nI k → pcR t n (4 - p) p i H = (k, j, zFn) → Q 0 υ)
    (k1 : p < 4 → ∀ υ i2 S, Sc σ υ → TKn υ t n i2 → i2 ≤ n → MRd υ (hPc t H p S (i + 1)) → HV (hPc t H p S (i + 1)) → pcR t n (4 - p) p i H = pcR t n (4 - p - 1) (p + 1) i2 (hPc t H p S (i + 1)) → Q 1 υ) : w_X7_readPiece N τ Q := by
  have hn := hB.1
  have h0 := hV.1
  have hp4 : p ≤ 4 := by
    have := hV.2.2.2.1
    omega
  have le0 : ((nI 0 : Int32) ≤ 0) = True := eq_true (by decide)
  unfold w_X7_readPiece
  simp only [cl0, vq0, cl1, vq1, cl2, vq2, cl3, vq3, cl4, vq4, cl5, vq5, true_and, hM 3 (show 3 < 57 by omega), hM 4 (show 4 < 57 by omega), h3, h4, le0, if_true, forall_eq]
  by_cases e : p = 4
  · subst e
    rw [if_pos (show nI 4 = 4 from rfl)]
    unfold j_X7_readPiece_21 w_X7_faults
    simp only [cl0, vq0, cl1, vq1, cl2, vq2, cl3, vq3, cl4, vq4, cl5, vq5, true_and, hM 4 (show 4 < 57 by omega), h4, le0, if_true, forall_eq]
    refine ⟨by simp, k0 3 i _ (by omega) (hS.st (by unfold scr; omega)) ?_ ?_ ?_⟩
    · rw [st2_app, if_neg (by omega), hT.1]
    · rw [st2_app, if_pos ⟨rfl, rfl⟩]
      rfl
    · rw [Nat.sub_self]
      unfold pcR
      rw [if_pos ⟨hi, ht⟩]
  · rw [if_neg (show ¬ nI p = 4 from fun z => e ((z_eq (b := 4) (by omega) (by omega)).mp z))]
    obtain ⟨r, hr⟩ : ∃ r, 4 - p = r + 1 := ⟨4 - p - 1, by omega⟩
    obtain ⟨S, hSd⟩ : ∃ S, S = slR t n (H 0) (i + 1) 8 0 := ⟨_, rfl⟩
    have eR : pcR t n (4 - p) p i H = if S = 0 then (1, i + 1, zFn) else pBy t n 59 (i + 1 + S) (fun i2 => pcR t n (4 - p - 1) (p + 1) i2 (hPc t H p S (i + 1))) := by
      rw [hr, Nat.add_sub_cancel, hSd]
      have : pcR t n (r + 1) p i H = if i < n ∧ t i = 116 then (if slR t n (H 0) (i + 1) 8 0 = 0 then (1, i + 1, zFn) else pBy t n 59 (i + 1 + slR t n (H 0) (i + 1) 8 0) (fun i2 => pcR t n r (p + 1) i2 (hPc t H p (slR t n (H 0) (i + 1) 8 0) (i + 1)))) else ppR t n 5 0 i H := rfl
      rw [this, if_pos ⟨hi, ht⟩]
    rw [eR] at k0 k1
    have tk := hT.2.2.1 hi (fig_let (by omega))
    have so := sl_ok (t := t) (n := n) (K := H 0) (i0 := i + 1) 8 0 (fun k hk => by omega)
    rw [← hSd] at so
    have e6 : (6 : Int32) + nI p = nI (6 + p) := nI_add 6 p
    have v6 : vp_in (nI (6 + p)) 57 := vp_in_nI (by omega) (by decide)
    have c6 : (nI (6 + p)).toNatClampNeg = 6 + p := nI_clamp (by omega)
    refine t_next hN (hB.sc hS) tk.2.1 (by omega) (fun υ uF uT => ?_)
    have S1 : Sc σ υ := hS.tr uF.sc
    have o3 : υ 62 3 + 1 = nI (p + 1) := by rw [uF 62 3 (by omega), hM 3 (by omega), h3, lit_1, nI_add]
    rw [o3]
    obtain ⟨τ1, hτ1⟩ : ∃ τ1, τ1 = st2 υ 62 3 (nI (p + 1)) := ⟨_, rfl⟩
    rw [← hτ1]
    have m1 : ∀ j, j ≠ 3 → j < 57 → τ1 62 j = nI (H j) := fun j q1 q2 => by rw [hτ1, st2_app, if_neg (fun z => q1 z.2), uF 62 j (by omega), hM j q2]
    have S2 : Sc σ τ1 := by rw [hτ1]; exact S1.st (by unfold scr; omega)
    have T2 : TKn τ1 t n (i + 1 + 0) := uT.cong (fun j _ _ => by rw [hτ1, st2_app, if_neg (by omega)])
    refine l_rp54 (τ0 := τ1) (K := H 0) (i0 := i + 1) hN hB (by omega) h0 8 0 N τ1 (by omega) (by omega) S2 T2 (by omega) (m1 0 (by omega) (by omega)) ?_ (fun k hk => by omega) (fun j _ _ => rfl) ?_
    · rw [m1 _ (by omega) (by omega), hz p (by omega) (by omega)]
    · rw [← hSd]
      intro ω wS wT w6 ws wF
      have hil : i + 1 + S ≤ n := by
        by_cases z : S = 0
        · omega
        · have := (so.2.2 (S - 1) (by omega)).1
          omega
      unfold j_X7_readPiece_151
      simp only [e6, v6, c6, true_and, w6]
      by_cases z : S = 0
      · rw [if_pos z] at k0
        rw [if_pos (by rw [z]; decide)]
        unfold w_X7_faults
        simp only [forall_eq]
        refine ⟨by simp, k0 1 (i + 1) _ (by omega) (wS.st (by unfold scr; omega)) ?_ ?_ rfl⟩
        · rw [st2_app, if_neg (by omega), wT.1, z, Nat.add_zero]
        · rw [st2_app, if_pos ⟨rfl, rfl⟩]
          rfl
      · rw [if_neg z] at k0 k1
        rw [if_neg (nI_nle (by omega) (by omega)), lit_59]
        refine t_takes hN (hB.sc wS) wT hil (by decide) (by decide) (fun b1 b2 ρ rF rT => ⟨Or.inr rfl, ?_⟩) (fun b => ⟨Or.inl rfl, ?_⟩)
        · refine k1 (by omega) ρ (i + 1 + S + 1) S (wS.tr rF.sc) rT (by omega) (fun j hj => ?_) (HV_pc hV h3 (by omega) h4 (by omega) (fun k hk => (so.2.2 k hk).2)) ?_
          · rw [rF 62 j (by omega)]
            by_cases q1 : 10 + 8 * p ≤ j ∧ j < 10 + 8 * p + S
            · obtain ⟨k, rfl⟩ : ∃ k, j = 10 + 8 * p + k := ⟨j - (10 + 8 * p), by omega⟩
              rw [hPc_s (by omega), ws k (by omega)]
            · by_cases q2 : j = 6 + p
              · subst q2
                rw [w6, hPc_n.resolve_right (by omega)]
              · rw [wF j q2 q1]
                by_cases q3 : j = 3
                · subst q3
                  rw [hPc_3, hτ1, st2_app, if_pos ⟨rfl, rfl⟩]
                · rw [hPc_o q1 q2 q3, m1 j q3 hj]
          · unfold pBy
            rw [if_pos ⟨b1, b2⟩]
        · refine k0 1 (i + 1 + S) _ (by omega) (wS.st (by unfold scr; omega)) ?_ ?_ ?_
          · rw [st2_app, if_neg (by omega), wT.1]
          · rw [st2_app, if_pos ⟨rfl, rfl⟩]
            rfl
          · unfold pBy
            rw [if_neg b]
theorem l_rhP (hN : 5000 ≤ N) (hB : BTr σ t n) : ∀ (r q i f : Nat) (H : Nat → Nat) (τ : kS), r + q = 5 → r + 1 < f → Sc σ τ → TKn τ t n i → i ≤ n → MRd τ H → H 4 = q → HV H → (0 < q ∨ ¬ (i < n ∧ t i = 116)) → RFk σ (ppR t n r q i H) Q → l_X7_readHall_94 N Q f 1 τ := by
  intro r
  induction r with
  | zero =>
    intro q i f H τ hq hf hS hT hi hM h4 hV ht hR
    obtain ⟨f, rfl⟩ : ∃ j, f = j + 1 := ⟨f - 1, by omega⟩
    obtain ⟨f, rfl⟩ : ∃ j, f = j + 1 := ⟨f - 1, by omega⟩
    show b_X7_readHall_94 N Q _ 1 τ
    by_cases e : i < n
    · rw [t_kinds (hB.sc hS) hT e]
      have kle := kdN_le (t i)
      unfold j_X7_readHall_172
      by_cases k : kdN (t i) = 0
      · have eR : ppR t n 0 q i H = (1, i, zFn) := by
          unfold ppR
          rw [if_pos e, if_pos k]
        have k0 : ∀ υ, Sc σ υ → υ 55 13 = nI i → υ 55 14 = nI 1 → l_X7_readHall_94 N Q (f + 1) 0 υ := fun υ a b c => rh0 (hR.f eR (by omega) a b c)
        rw [k, if_pos (by decide), lit_116, t_isL (hB.sc hS) hT hi (by decide) (by decide)]
        by_cases b : i < n ∧ t i = 116
        · rw [if_pos b, if_neg (by decide)]
          exact t_rpcA hS hT hM h4 (by omega) hV k0
        · rw [if_neg b, if_pos rfl]
          unfold w_X7_faults
          simp only [forall_eq]
          refine k0 _ (hS.st (by unfold scr; omega)) ?_ ?_
          · rw [st2_app, if_neg (by omega), hT.1]
          · rw [st2_app, if_pos ⟨rfl, rfl⟩]
            rfl
      · rw [if_neg (nI_nle (by omega) (by omega))]
        refine t_rpup hN hB hS hT e k hM h4 hV (fun k' j υ h1 h2 h3 h5 h6 => ?_) (fun q5 => by omega)
        rw [show 5 - q = 0 by omega] at h6
        exact rh0 (hR.f h6 h1 h2 h3 h5)
    · have eR : ppR t n 0 q i H = (0, i, H) := by
        unfold ppR
        rw [if_neg e]
      rw [t_kindE hT (by omega)]
      rw [eR] at hR
      exact hR.1 rfl τ hS hM
  | succ r ih =>
    intro q i f H τ hq hf hS hT hi hM h4 hV ht hR
    obtain ⟨f, rfl⟩ : ∃ j, f = j + 1 := ⟨f - 1, by omega⟩
    obtain ⟨f, rfl⟩ : ∃ j, f = j + 1 := ⟨f - 1, by omega⟩
    show b_X7_readHall_94 N Q _ 1 τ
    by_cases e : i < n
    · rw [t_kinds (hB.sc hS) hT e]
      have kle := kdN_le (t i)
      unfold j_X7_readHall_172
      by_cases k : kdN (t i) = 0
      · have eR : ppR t n (r + 1) q i H = (1, i, zFn) := by
          unfold ppR
          rw [if_pos e, if_pos k]
        have k0 : ∀ υ, Sc σ υ → υ 55 13 = nI i → υ 55 14 = nI 1 → l_X7_readHall_94 N Q (f + 1) 0 υ := fun υ a b c => rh0 (hR.f eR (by omega) a b c)
        rw [k, if_pos (by decide), lit_116, t_isL (hB.sc hS) hT hi (by decide) (by decide)]
        by_cases b : i < n ∧ t i = 116
        · rw [if_pos b, if_neg (by decide)]
          exact t_rpcA hS hT hM h4 (ht.resolve_right (fun z => z b)) hV k0
        · rw [if_neg b, if_pos rfl]
          unfold w_X7_faults
          simp only [forall_eq]
          refine k0 _ (hS.st (by unfold scr; omega)) ?_ ?_
          · rw [st2_app, if_neg (by omega), hT.1]
          · rw [st2_app, if_pos ⟨rfl, rfl⟩]
            rfl
      · rw [if_neg (nI_nle (by omega) (by omega))]
        refine t_rpup hN hB hS hT e k hM h4 hV (fun k' j υ h1 h2 h3 h5 h6 => ?_) (fun q5 υ i4 v w uS uT ui uM uV uR => ?_)
        · rw [show 5 - q = r + 1 by omega] at h6
          exact rh0 (hR.f h6 h1 h2 h3 h5)
        · rw [show 5 - q = r + 1 by omega, Nat.add_sub_cancel] at uR
          rw [uR] at hR
          refine ih (q + 1) i4 (f + 1) _ υ (by omega) (by omega) uS uT ui uM ?_ uV (Or.inl (by omega)) hR
          unfold hPp
          rw [if_neg (by omega), if_neg (by omega), if_neg (by omega), if_pos rfl]
    · have eR : ppR t n (r + 1) q i H = (0, i, H) := by
        unfold ppR
        rw [if_neg e]
      rw [t_kindE hT (by omega)]
      rw [eR] at hR
      exact hR.1 rfl τ hS hM
theorem l_rhC (hN : 5000 ≤ N) (hB : BTr σ t n) : ∀ (r p i f : Nat) (H : Nat → Nat) (τ : kS), r + p = 4 → r + 7 < f → Sc σ τ → TKn τ t n i → i ≤ n → MRd τ H → H 3 = p → H 4 = 0 → HV H → (∀ p', p ≤ p' → p' < 4 → H (6 + p') = 0) → RFk σ (pcR t n r p i H) Q → l_X7_readHall_94 N Q f 1 τ := by
  intro r
  induction r with
  | zero =>
    intro p i f H τ hp hf hS hT hi hM h3 h4 hV hz hR
    by_cases b : i < n ∧ t i = 116
    · obtain ⟨f, rfl⟩ : ∃ j, f = j + 1 := ⟨f - 1, by omega⟩
      obtain ⟨f, rfl⟩ : ∃ j, f = j + 1 := ⟨f - 1, by omega⟩
      show b_X7_readHall_94 N Q _ 1 τ
      rw [t_kinds (hB.sc hS) hT b.1]
      unfold j_X7_readHall_172
      rw [b.2, if_pos (by decide), lit_116, t_isL (hB.sc hS) hT hi (by decide) (by decide), if_pos b, if_neg (by decide)]
      refine t_rpcB hN hB hS hT b.1 b.2 hM h3 h4 hV hz (fun k' j υ g1 g2 g3 g5 g6 => ?_) (fun p4 => by omega)
      rw [show 4 - p = 0 by omega] at g6
      exact rh0 (hR.f g6 g1 g2 g3 g5)
    · have eR : pcR t n 0 p i H = ppR t n 5 0 i H := by
        unfold pcR
        rw [if_neg b]
      rw [eR] at hR
      exact l_rhP hN hB 5 0 i f H τ (by omega) (by omega) hS hT hi hM h4 hV (Or.inr b) hR
  | succ r ih =>
    intro p i f H τ hp hf hS hT hi hM h3 h4 hV hz hR
    by_cases b : i < n ∧ t i = 116
    · obtain ⟨f, rfl⟩ : ∃ j, f = j + 1 := ⟨f - 1, by omega⟩
      obtain ⟨f, rfl⟩ : ∃ j, f = j + 1 := ⟨f - 1, by omega⟩
      show b_X7_readHall_94 N Q _ 1 τ
      rw [t_kinds (hB.sc hS) hT b.1]
      unfold j_X7_readHall_172
      rw [b.2, if_pos (by decide), lit_116, t_isL (hB.sc hS) hT hi (by decide) (by decide), if_pos b, if_neg (by decide)]
      refine t_rpcB hN hB hS hT b.1 b.2 hM h3 h4 hV hz (fun k' j υ g1 g2 g3 g5 g6 => ?_) (fun p4 υ i2 S uS uT ui uM uV uR => ?_)
      · rw [show 4 - p = r + 1 by omega] at g6
        exact rh0 (hR.f g6 g1 g2 g3 g5)
      · rw [show 4 - p = r + 1 by omega, Nat.add_sub_cancel] at uR
        rw [uR] at hR
        refine ih (p + 1) i2 (f + 1) _ υ (by omega) (by omega) uS uT ui uM hPc_3 ?_ uV (fun p' q1 q2 => ?_) hR
        · rw [hPc_o (by omega) (by omega) (by omega), h4]
        · rw [hPc_o (by omega) (by omega) (by omega)]
          exact hz p' (by omega) q2
    · have eR : pcR t n (r + 1) p i H = ppR t n 5 0 i H := by
        unfold pcR
        rw [if_neg b]
      rw [eR] at hR
      exact l_rhP hN hB 5 0 i f H τ (by omega) (by omega) hS hT hi hM h4 hV (Or.inr b) hR
theorem t_readHall (hN : 5000 ≤ N) (hB : BTr σ t n) (hR : RFk σ (prs t n) Q) : w_X7_readHall N σ Q := by
  have hn := hB.1
  unfold w_X7_readHall
  simp only [forall_eq]
  have w7 : ∀ E, l_X7_readHall_7 N Q E N 0 (st2 σ 55 10 0) = E (blk (st2 σ 55 10 0) 62 0 57 (fun _ => 0)) := fun E => by
    have := l_readHall7 (N := N) (Q := Q) (E := E) (σ := st2 σ 55 10 0) 57 N 0 (by omega) (by omega)
    simp only [blk_0] at this
    exact this
  refine Eq.mpr (w7 _) ?_
  obtain ⟨τ0, hτ0⟩ : ∃ τ0, τ0 = blk (st2 σ 55 10 0) 62 0 57 (fun _ => 0) := ⟨_, rfl⟩
  rw [← hτ0]
  have S0 : Sc σ τ0 := fun c j q => by
    rw [hτ0, blk_out (fun z => q (by unfold scr; omega)), st2_app, if_neg (fun z => q (by unfold scr; omega))]
  have m0 : ∀ j, j < 57 → τ0 62 j = nI 0 := fun j hj => by
    rw [hτ0, blk_in (by omega) (by omega)]
    rfl
  have q0 : τ0 55 10 = nI 0 := by
    rw [hτ0, blk_out (by omega), st2_app, if_pos ⟨rfl, rfl⟩]
    rfl
  refine t_next hN (hB.sc S0) q0 (by omega) (fun τ1 F1 T1 => ?_)
  have S1 : Sc σ τ1 := S0.tr F1.sc
  have m1 : ∀ j, j < 57 → τ1 62 j = nI 0 := fun j hj => by rw [F1 62 j (by omega), m0 j hj]
  unfold prs at hR
  rw [lit_107]
  refine t_takes hN (hB.sc S1) T1 (by omega) (by decide) (by decide) (fun b1 b2 τ2 F2 T2 => ?_) (fun b => ?_)
  rotate_left
  · rw [if_pos rfl]
    refine hR.f (k := 1) (j := 0) ?_ (by omega) (S1.st (by unfold scr; omega)) ?_ ?_
    · unfold pBy
      rw [if_neg b]
    · rw [st2_app, if_neg (by omega), T1.1]
    · rw [st2_app, if_pos ⟨rfl, rfl⟩]
      rfl
  have eR1 : pBy t n 107 0 (fun i1 => pNu t n 2 12 i1 (fun K i2 => pBy t n 44 i2 (fun i3 => pNu t n 0 (K - 1) i3 (fun d i4 => pBy t n 44 i4 (fun i5 => pNu t n 0 (K - 1) i5 (fun s i6 => pBy t n 59 i6 (fun i7 => pcR t n 4 0 i7 (hLw K d s)))))))) = pNu t n 2 12 (0 + 1) (fun K i2 => pBy t n 44 i2 (fun i3 => pNu t n 0 (K - 1) i3 (fun d i4 => pBy t n 44 i4 (fun i5 => pNu t n 0 (K - 1) i5 (fun s i6 => pBy t n 59 i6 (fun i7 => pcR t n 4 0 i7 (hLw K d s))))))) := if_pos ⟨b1, b2⟩
  rw [eR1] at hR
  rw [if_neg (by decide)]
  have S2 : Sc σ τ2 := S1.tr F2.sc
  have m2 : ∀ j, j < 57 → τ2 62 j = nI 0 := fun j hj => by rw [F2 62 j (by omega), m1 j hj]
  refine t_takesN (lo := 2) (hi := 12) (a := 0) (c := 44) hN (hB.sc S2) T2 (by omega) (by decide) (by decide) (by omega) (by omega) (by omega) (fun k j υ hk uS u13 u14 ue => ?_) (fun fe ve c1 c2 τ3 S3' T3 m3' => ?_)
  · rw [if_pos rfl]
    exact hR.f (ue (fun K i3 => pNu t n 0 (K - 1) i3 (fun d i4 => pBy t n 44 i4 (fun i5 => pNu t n 0 (K - 1) i5 (fun s i6 => pBy t n 59 i6 (fun i7 => pcR t n 4 0 i7 (hLw K d s))))))) hk (S2.tr uS) u13 u14
  rw [if_neg (by decide)]
  obtain ⟨K, hK⟩ : ∃ K, K = vlN t n (0 + 1) := ⟨_, rfl⟩
  obtain ⟨i3, hi3⟩ : ∃ i3, i3 = 0 + 1 + figN t n (0 + 1) + 1 := ⟨_, rfl⟩
  have eR2 : pNu t n 2 12 (0 + 1) (fun K i2 => pBy t n 44 i2 (fun i3 => pNu t n 0 (K - 1) i3 (fun d i4 => pBy t n 44 i4 (fun i5 => pNu t n 0 (K - 1) i5 (fun s i6 => pBy t n 59 i6 (fun i7 => pcR t n 4 0 i7 (hLw K d s))))))) = pNu t n 0 (K - 1) i3 (fun d i4 => pBy t n 44 i4 (fun i5 => pNu t n 0 (K - 1) i5 (fun s i6 => pBy t n 59 i6 (fun i7 => pcR t n 4 0 i7 (hLw K d s))))) := by
    rw [hK, hi3]
    rw [pNu_t fe ve, pBy_t ⟨c1, c2⟩]
  rw [eR2] at hR
  rw [← hK] at ve m3'
  rw [← hi3] at T3
  have S3 : Sc σ τ3 := S2.tr S3'
  have r3 : τ3 62 0 = nI K := by rw [m3' 0, if_pos rfl]
  have k3 : τ3 62 0 - 1 = nI (K - 1) := by rw [r3, lit_1, pk_sub (by omega)]
  refine ⟨vp_in_nI (n := 0) (by decide) (by decide), ?_⟩
  rw [cl0, k3]
  refine t_takesN (lo := 0) (hi := K - 1) (a := 1) (c := 44) hN (hB.sc S3) T3 (by omega) (by decide) (by decide) (by omega) (by omega) (by omega) (fun k j υ hk uS u13 u14 ue => ?_) (fun fe2 ve2 d1 d2 τ4 S4' T4 m4' => ?_)
  · rw [if_pos rfl]
    exact hR.f (ue (fun d i5 => pNu t n 0 (K - 1) i5 (fun s i6 => pBy t n 59 i6 (fun i7 => pcR t n 4 0 i7 (hLw K d s))))) hk (S3.tr uS) u13 u14
  rw [if_neg (by decide)]
  obtain ⟨d, hd⟩ : ∃ d, d = vlN t n i3 := ⟨_, rfl⟩
  obtain ⟨i5, hi5⟩ : ∃ i5, i5 = i3 + figN t n i3 + 1 := ⟨_, rfl⟩
  have eR3 : pNu t n 0 (K - 1) i3 (fun d i4 => pBy t n 44 i4 (fun i5 => pNu t n 0 (K - 1) i5 (fun s i6 => pBy t n 59 i6 (fun i7 => pcR t n 4 0 i7 (hLw K d s))))) = pNu t n 0 (K - 1) i5 (fun s i6 => pBy t n 59 i6 (fun i7 => pcR t n 4 0 i7 (hLw K d s))) := by
    rw [hd, hi5]
    rw [pNu_t fe2 ve2, pBy_t ⟨d1, d2⟩]
  rw [eR3] at hR
  rw [← hd] at ve2 m4'
  rw [← hi5] at T4
  have S4 : Sc σ τ4 := S3.tr S4'
  have r4 : τ4 62 0 = nI K := by rw [m4' 0, if_neg (by omega), r3]
  have k4 : τ4 62 0 - 1 = nI (K - 1) := by rw [r4, lit_1, pk_sub (by omega)]
  refine ⟨vp_in_nI (n := 0) (by decide) (by decide), ?_⟩
  rw [k4]
  refine t_takesN (lo := 0) (hi := K - 1) (a := 2) (c := 59) hN (hB.sc S4) T4 (by omega) (by decide) (by decide) (by omega) (by omega) (by omega) (fun k j υ hk uS u13 u14 ue => ?_) (fun fe3 ve3 g1 g2 τ5 S5' T5 m5' => ?_)
  · rw [if_pos rfl]
    exact hR.f (ue (fun s i7 => pcR t n 4 0 i7 (hLw K d s))) hk (S4.tr uS) u13 u14
  rw [if_neg (by decide)]
  obtain ⟨s, hs⟩ : ∃ s, s = vlN t n i5 := ⟨_, rfl⟩
  obtain ⟨i7, hi7⟩ : ∃ i7, i7 = i5 + figN t n i5 + 1 := ⟨_, rfl⟩
  have eR4 : pNu t n 0 (K - 1) i5 (fun s i6 => pBy t n 59 i6 (fun i7 => pcR t n 4 0 i7 (hLw K d s))) = pcR t n 4 0 i7 (hLw K d s) := by
    rw [hs, hi7]
    rw [pNu_t fe3 ve3, pBy_t ⟨g1, g2⟩]
  rw [eR4] at hR
  rw [← hs] at ve3 m5'
  rw [← hi7] at T5
  have S5 : Sc σ τ5 := S4.tr S5'
  refine l_rhC hN hB 4 0 i7 N (hLw K d s) τ5 (by omega) (by omega) S5 T5 (by omega) (fun j hj => ?_) rfl rfl (HV_lw ve (by omega) (by omega)) (fun p' _ hp => ?_) hR
  · rw [m5' j, m4' j, m3' j, m2 j hj]
    unfold hLw
    by_cases q0 : j = 0
    · rw [if_neg (by omega), if_neg (by omega), if_pos q0, if_pos q0]
    · by_cases q1 : j = 1
      · rw [if_neg (by omega), if_pos q1, if_neg q0, if_pos q1]
      · by_cases q2 : j = 2
        · rw [if_pos q2, if_neg q0, if_neg q1, if_pos q2]
        · rw [if_neg q2, if_neg q1, if_neg q0, if_neg q0, if_neg q1, if_neg q2]
  · unfold hLw
    rw [if_neg (by omega), if_neg (by omega), if_neg (by omega)]
end RF
