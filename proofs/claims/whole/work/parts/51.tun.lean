/-! ===== tunings: what the loops do ===== -/
def grd (K d x : Nat) : Nat → Nat → Nat → Nat
  | 0, _, c => c
  | r + 1, g, c => if (g + d) % K ≤ x then grd K d x r ((g + d) % K) c else grd K d x r 0 (c + 1)
def stq (K d x : Nat) (T U : Nat → Nat) (k : Nat) : Nat → Nat := upH U ((k + d) % K) (if x < (k + d) % K then U ((k + d) % K) else if U ((k + d) % K) ≤ T k then U ((k + d) % K) else T k)
def stp (K d x : Nat) (T U : Nat → Nat) (k : Nat) : Nat → Nat := upH (stq K d x T U k) 0 (if stq K d x T U k 0 ≤ T k + 1 then stq K d x T U k 0 else T k + 1)
def trn (K d x : Nat) (T : Nat → Nat) : Nat → Nat → (Nat → Nat) → Nat → Nat
  | 0, _, U => U
  | r + 1, k, U => trn K d x T r (k + 1) (stp K d x T U k)
def tbl (f : Nat → Nat) : Nat → Int32 := fun j => nI (f j)
theorem blk_set {σ : kS} {a o n k v : Nat} {f : Nat → Nat} (h : k < n) : st2 (blk σ a 0 n (tbl f)) a k (nI v) = blk σ a 0 n (tbl (upH f k v)) := by
  funext c j
  rw [st2_app]
  unfold blk tbl upH
  by_cases e : c = a ∧ j = k
  · rw [if_pos e, if_pos (by omega), if_pos (by omega)]
  · rw [if_neg e]
    by_cases e' : c = a ∧ 0 ≤ j ∧ j < 0 + n
    · rw [if_pos e', if_pos e', if_neg (by omega)]
    · rw [if_neg e', if_neg e']
section TU
variable {N : Nat} {σ : kS} {H : Nat → Nat} {Q : Int32 → kS → Prop} {E : kS → Prop} {G : Int32 → Int32 → kS → Prop}
theorem l_greedy {t x : Nat} (hC : CH σ 33 H) (hV : HV H) (ht : t ≤ 60) (hx : x ≤ 11) : ∀ (r n k g c : Nat), k + r = t → r < n → g < H 0 → l_X2_fewestTunings_14 N Q (nI t) (nI x) n (nI c) (nI g) (nI k) σ = Q (nI (grd (H 0) (H 1) x r g c)) σ := by
  have h0 := hV.1
  have h1 := hV.2.1
  intro r
  induction r with
  | zero =>
    intro n k g c hk hn hg
    obtain ⟨n, rfl⟩ : ∃ j, n = j + 1 := ⟨n - 1, by omega⟩
    show b_X2_fewestTunings_14 N Q (nI t) (nI x) _ (nI c) (nI g) (nI k) σ = _
    unfold b_X2_fewestTunings_14
    rw [if_pos ((z_le (by omega) (by omega)).mpr (by omega))]
    rfl
  | succ r ih =>
    intro n k g c hk hn hg
    obtain ⟨n, rfl⟩ : ∃ j, n = j + 1 := ⟨n - 1, by omega⟩
    show b_X2_fewestTunings_14 N Q (nI t) (nI x) _ (nI c) (nI g) (nI k) σ = _
    unfold b_X2_fewestTunings_14
    rw [if_neg (fun q => absurd ((z_le (by omega) (by omega)).mp q) (by omega))]
    have ek : nI k + 1 = nI (k + 1) := by rw [lit_1, nI_add]
    have ec : nI c + 1 = nI (c + 1) := by rw [lit_1, nI_add]
    have lt := Nat.mod_lt (g + H 1) (show 0 < H 0 by omega)
    simp only [hC.2.1, nI_add, t_around hC.1 (show 0 < H 0 by omega) (show H 0 < 2 ^ 31 by omega), fov_nat (show g + H 1 < 2 ^ 31 by omega), forall_eq, ek, ec, z_le (show (g + H 1) % H 0 < 2 ^ 31 by omega) (show x < 2 ^ 31 by omega)]
    show _ = Q (nI (if (g + H 1) % H 0 ≤ x then grd (H 0) (H 1) x r ((g + H 1) % H 0) c else grd (H 0) (H 1) x r 0 (c + 1))) σ
    by_cases e : (g + H 1) % H 0 ≤ x
    · rw [if_pos e, if_pos e]
      exact ih n (k + 1) _ _ (by omega) (by omega) lt
    · rw [if_neg e, if_neg e]
      exact ih n (k + 1) 0 _ (by omega) (by omega) (by omega)
theorem l_t39 {x1 x2 : Int32} (hM : MH σ H) (hV : HV H) : ∀ (r n k : Nat), k + r = 12 → r < n → l_X7_tunings_39 N Q x1 x2 E n (nI k) (blk σ 64 0 k (tbl fun j => if j = H 2 then 0 else 999)) = E (blk σ 64 0 12 (tbl fun j => if j = H 2 then 0 else 999)) := by
  have h0 := hV.1
  have h2 := hV.2.2.1
  intro r
  induction r with
  | zero =>
    intro n k hk hn
    obtain ⟨n, rfl⟩ : ∃ j, n = j + 1 := ⟨n - 1, by omega⟩
    show b_X7_tunings_39 N Q x1 x2 E _ (nI k) _ = _
    unfold b_X7_tunings_39
    rw [lit_12, if_pos ((z_le (by omega) (by omega)).mpr (by omega))]
    rw [show k = 12 by omega]
  | succ r ih =>
    intro n k hk hn
    obtain ⟨n, rfl⟩ : ∃ j, n = j + 1 := ⟨n - 1, by omega⟩
    show b_X7_tunings_39 N Q x1 x2 E _ (nI k) _ = _
    unfold b_X7_tunings_39
    have ek : nI k + 1 = nI (k + 1) := by rw [lit_1, nI_add]
    have e2 : blk σ 64 0 k (tbl fun j => if j = H 2 then 0 else 999) 59 2 = nI (H 2) := by rw [blk_out (by omega), hM 2 (by omega)]
    have hv : vp_in (nI k) 12 := vp_in_nI (by omega) (by decide)
    have ck : (nI k).toNatClampNeg = k := nI_clamp (by omega)
    rw [lit_12, if_neg (fun q => absurd ((z_le (by omega) (by omega)).mp q) (by omega))]
    simp only [cl0, vq0, cl1, vq1, cl2, vq2, cl3, vq3, cl4, vq4, cl5, vq5, true_and, e2, hv, ck, forall_eq, ek, z_eq (show k < 2 ^ 31 by omega) (show H 2 < 2 ^ 31 by omega)]
    rw [← ih n (k + 1) (by omega) (by omega)]
    by_cases e : k = H 2
    · rw [if_pos e, blk_step (by omega) (by show (0 : Int32) = nI (if k = H 2 then 0 else 999); rw [if_pos e]; rfl)]
    · rw [if_neg e, blk_step (by omega) (by show (999 : Int32) = nI (if k = H 2 then 0 else 999); rw [if_neg e]; rfl)]
theorem l_t84 {x1 x2 x3 : Int32} : ∀ (r n k : Nat), k + r = 12 → r < n → l_X7_tunings_84 N Q x1 x2 x3 E n (nI k) (blk σ 65 0 k (tbl fun _ => 999)) = E (blk σ 65 0 12 (tbl fun _ => 999)) := by
  intro r
  induction r with
  | zero =>
    intro n k hk hn
    obtain ⟨n, rfl⟩ : ∃ j, n = j + 1 := ⟨n - 1, by omega⟩
    show b_X7_tunings_84 N Q x1 x2 x3 E _ (nI k) _ = _
    unfold b_X7_tunings_84
    rw [lit_12, if_pos ((z_le (by omega) (by omega)).mpr (by omega))]
    rw [show k = 12 by omega]
  | succ r ih =>
    intro n k hk hn
    obtain ⟨n, rfl⟩ : ∃ j, n = j + 1 := ⟨n - 1, by omega⟩
    show b_X7_tunings_84 N Q x1 x2 x3 E _ (nI k) _ = _
    unfold b_X7_tunings_84
    have ek : nI k + 1 = nI (k + 1) := by rw [lit_1, nI_add]
    have hv : vp_in (nI k) 12 := vp_in_nI (by omega) (by decide)
    have ck : (nI k).toNatClampNeg = k := nI_clamp (by omega)
    rw [lit_12, if_neg (fun q => absurd ((z_le (by omega) (by omega)).mp q) (by omega))]
    simp only [true_and, hv, ck, forall_eq, ek]
    rw [← ih n (k + 1) (by omega) (by omega), blk_step (v := 999) (f := tbl fun _ => 999) (by omega) rfl]
theorem l_t234 {x1 x2 x3 : Int32} {τ : kS} : ∀ (r n k : Nat), k + r = 12 → r < n → l_X7_tunings_234 N Q x1 x2 x3 E n (nI k) (blk τ 64 0 k (fun j => τ 65 j)) = E (blk τ 64 0 12 (fun j => τ 65 j)) := by
  intro r
  induction r with
  | zero =>
    intro n k hk hn
    obtain ⟨n, rfl⟩ : ∃ j, n = j + 1 := ⟨n - 1, by omega⟩
    show b_X7_tunings_234 N Q x1 x2 x3 E _ (nI k) _ = _
    unfold b_X7_tunings_234
    rw [lit_12, if_pos ((z_le (by omega) (by omega)).mpr (by omega))]
    rw [show k = 12 by omega]
  | succ r ih =>
    intro n k hk hn
    obtain ⟨n, rfl⟩ : ∃ j, n = j + 1 := ⟨n - 1, by omega⟩
    show b_X7_tunings_234 N Q x1 x2 x3 E _ (nI k) _ = _
    unfold b_X7_tunings_234
    have ek : nI k + 1 = nI (k + 1) := by rw [lit_1, nI_add]
    have hv : vp_in (nI k) 12 := vp_in_nI (by omega) (by decide)
    have ck : (nI k).toNatClampNeg = k := nI_clamp (by omega)
    rw [lit_12, if_neg (fun q => absurd ((z_le (by omega) (by omega)).mp q) (by omega))]
    simp only [true_and, hv, ck, forall_eq, ek]
    rw [← ih n (k + 1) (by omega) (by omega), blk_out (by omega), blk_step (f := fun j => τ 65 j) (by omega) rfl]
theorem l_t110 {x1 x3 : Int32} {x : Nat} {T : Nat → Nat} (hM : MH σ H) (hV : HV H) (hx : x ≤ 11) (hT : ∀ j, j < 12 → σ 64 j = nI (T j) ∧ T j ≤ 999) : ∀ (r n k : Nat) (U : Nat → Nat), k + r = H 0 → r < n → (∀ j, j < 12 → U j ≤ 999) → l_X7_tunings_110 N Q x1 (nI x) x3 E n (nI k) (blk σ 65 0 12 (tbl U)) = E (blk σ 65 0 12 (tbl (trn (H 0) (H 1) x T r k U))) := by
  have h0 := hV.1
  have h1 := hV.2.1
  intro r
  induction r with
  | zero =>
    intro n k U hk hn hU
    obtain ⟨n, rfl⟩ : ∃ j, n = j + 1 := ⟨n - 1, by omega⟩
    show b_X7_tunings_110 N Q x1 (nI x) x3 E _ (nI k) _ = _
    unfold b_X7_tunings_110
    have m0 : blk σ 65 0 12 (tbl U) 59 0 = nI (H 0) := by rw [blk_out (by omega), hM 0 (by omega)]
    simp only [cl0, vq0, cl1, vq1, cl2, vq2, cl3, vq3, cl4, vq4, cl5, vq5, true_and, m0]
    rw [if_pos ((z_le (by omega) (by omega)).mpr (by omega))]
    rfl
  | succ r ih =>
    intro n k U hk hn hU
    obtain ⟨n, rfl⟩ : ∃ j, n = j + 1 := ⟨n - 1, by omega⟩
    show b_X7_tunings_110 N Q x1 (nI x) x3 E _ (nI k) _ = _
    unfold b_X7_tunings_110
    have m0 : ∀ W, blk σ 65 0 12 (tbl W) 59 0 = nI (H 0) := fun W => by rw [blk_out (by omega), hM 0 (by omega)]
    have m1 : ∀ W, blk σ 65 0 12 (tbl W) 59 1 = nI (H 1) := fun W => by rw [blk_out (by omega), hM 1 (by omega)]
    have ek : nI k + 1 = nI (k + 1) := by rw [lit_1, nI_add]
    have lt := Nat.mod_lt (k + H 1) (show 0 < H 0 by omega)
    obtain ⟨q, hq⟩ : ∃ q, q = (k + H 1) % H 0 := ⟨_, rfl⟩
    have hvk : vp_in (nI k) 12 := vp_in_nI (by omega) (by decide)
    have ck : (nI k).toNatClampNeg = k := nI_clamp (by omega)
    have hvq : vp_in (nI q) 12 := vp_in_nI (by omega) (by decide)
    have cq : (nI q).toNatClampNeg = q := nI_clamp (by omega)
    have hv0 : vp_in (0 : Int32) 12 := vp_in_nI (n := 0) (by omega) (by decide)
    have r64 : ∀ W, blk σ 65 0 12 (tbl W) 64 k = nI (T k) := fun W => by rw [blk_out (by omega), (hT k (by omega)).1]
    have tk := (hT k (by omega)).2
    have r65 : ∀ W j, j < 12 → blk σ 65 0 12 (tbl W) 65 j = nI (W j) := fun W j hj => by rw [blk_in (by omega) (by omega)]; rfl
    have et : nI (T k) + 1 = nI (T k + 1) := by rw [lit_1, nI_add]
    have st : ∀ W j v, j < 12 → st2 (blk σ 65 0 12 (tbl W)) 65 j (nI v) = blk σ 65 0 12 (tbl (upH W j v)) := fun W j v hj => blk_set (o := 0) hj
    have jj : ∀ v, v ≤ 999 → j_X7_tunings_182 N Q x1 (nI x) x3 (nI k) (nI v) (nI q) (l_X7_tunings_110 N Q x1 (nI x) x3 E n) (blk σ 65 0 12 (tbl U)) = l_X7_tunings_110 N Q x1 (nI x) x3 E n (nI (k + 1)) (blk σ 65 0 12 (tbl (upH (upH U q v) 0 (if upH U q v 0 ≤ T k + 1 then upH U q v 0 else T k + 1)))) := fun v hv => by
      have u0 : upH U q v 0 ≤ 999 := by
        by_cases e : 0 = q
        · rw [← e, upH_eq]; exact hv
        · rw [upH_ne e]; exact hU 0 (by omega)
      unfold j_X7_tunings_182
      simp only [hvq, cq, true_and, forall_eq, st _ q v (by omega), hvk, ck, hv0, cl0, r65 _ 0 (by omega), r64, et, z_le (show upH U q v 0 < 2 ^ 31 by omega) (show T k + 1 < 2 ^ 31 by omega), st _ 0 _ (by omega), ek]
      by_cases e : upH U q v 0 ≤ T k + 1
      · rw [if_pos e, if_pos e]
      · rw [if_neg e, if_neg e]
    have uq := hU q (by omega)
    have fi : ∀ v, v = (if x < q then U q else if U q ≤ T k then U q else T k) → l_X7_tunings_110 N Q x1 (nI x) x3 E n (nI (k + 1)) (blk σ 65 0 12 (tbl (upH (upH U q v) 0 (if upH U q v 0 ≤ T k + 1 then upH U q v 0 else T k + 1)))) = E (blk σ 65 0 12 (tbl (trn (H 0) (H 1) x T (r + 1) k U))) := fun v e => by
      have es : upH (upH U q v) 0 (if upH U q v 0 ≤ T k + 1 then upH U q v 0 else T k + 1) = stp (H 0) (H 1) x T U k := by
        unfold stp stq
        rw [← hq, ← e]
      rw [es]
      refine ih n (k + 1) _ (by omega) (by omega) (fun j hj => ?_)
      rw [← es]
      have hv : v ≤ 999 := by
        rw [e]
        split
        · exact uq
        · split
          · exact uq
          · exact tk
      have u1 : ∀ j, j < 12 → upH U q v j ≤ 999 := fun j hj => by
        by_cases e : j = q
        · rw [e, upH_eq]; exact hv
        · rw [upH_ne e]; exact hU j hj
      by_cases e0 : j = 0
      · rw [e0, upH_eq]
        have := u1 0 (by omega)
        split <;> omega
      · rw [upH_ne e0]
        exact u1 j hj
    simp only [cl0, vq0, cl1, vq1, cl2, vq2, cl3, vq3, cl4, vq4, cl5, vq5, true_and, m0, m1]
    rw [if_neg (fun q => absurd ((z_le (by omega) (by omega)).mp q) (by omega))]
    rw [t_over (m0 U) (show 0 < H 0 by omega) (show H 0 < 2 ^ 31 by omega), nI_add, fov_nat (show k + H 1 < 2 ^ 31 by omega), ← hq]
    simp only [z_lt (show x < 2 ^ 31 by omega) (show q < 2 ^ 31 by omega), j_X7_tunings_175, hvq, cq, hvk, ck, true_and, r65 U q (by omega), r64, z_le (show U q < 2 ^ 31 by omega) (show T k < 2 ^ 31 by omega), jj _ uq, jj _ tk]
    by_cases a : x < q
    · rw [if_pos a]
      exact fi _ (by rw [if_pos a])
    · rw [if_neg a]
      by_cases b : U q ≤ T k
      · rw [if_pos b]
        exact fi _ (by rw [if_neg a, if_pos b])
      · rw [if_neg b]
        exact fi _ (by rw [if_neg a, if_neg b])
end TU
