/-! ===== struck ===== -/
abbrev okS (K : Nat) (a b x : Int32) : Prop := (0 ≤ a.toInt ∧ a.toInt < K) ∧ b = fov K (a + x)
def wrR (K : Nat) (f : Nat → Int32) (i : Nat) (x : Int32) : Nat → Nat → Nat → Nat
  | 0, _, v => v
  | r + 1, k, v => wrR K f i x r (k + 1) (if okS K (f (i + 2 * k)) (f (i + 2 * k + 1)) x then v else v + 1)
def shR (K : Nat) (f : Nat → Int32) (i m : Nat) (t : Int32) : Nat → Nat → Int32 → Int32
  | 0, _, s => s
  | r + 1, k, s => shR K f i m t r (k + 1) (if t < nI (wrR K f i (nI k) m 0 0) then s else s ||| ((1 : Int32) <<< (nI k &&& 31)))
section ST
variable {N : Nat} {σ : kS} {H : Nat → Nat} {f : Nat → Int32} {K : Nat} {Q : Int32 → kS → Prop} {E : Int32 → kS → Prop} {G : Int32 → Int32 → kS → Prop}
theorem l_wrongsBy {c i m : Nat} {x1 : Int32} (h5 : σ 33 5 = nI K) (hK : 2 ≤ K ∧ K ≤ 12) (hf : ∀ j, j < 40 → σ c j = f j) (hi : i + 2 * m ≤ 40) : ∀ (r n k v : Nat), k + r = m → r < n → l_X2_wrongsBy_6 N Q c x1 (nI i) (nI m) n (nI v) (nI k) σ = Q (nI (wrR K f i x1 r k v)) σ := by
  intro r
  induction r with
  | zero =>
    intro n k v hk hn
    obtain ⟨n, rfl⟩ : ∃ j, n = j + 1 := ⟨n - 1, by omega⟩
    show b_X2_wrongsBy_6 N Q c x1 (nI i) (nI m) _ (nI v) (nI k) σ = _
    unfold b_X2_wrongsBy_6
    rw [if_pos ((z_le (by omega) (by omega)).mpr (by omega))]
    rfl
  | succ r ih =>
    intro n k v hk hn
    obtain ⟨n, rfl⟩ : ∃ j, n = j + 1 := ⟨n - 1, by omega⟩
    show b_X2_wrongsBy_6 N Q c x1 (nI i) (nI m) _ (nI v) (nI k) σ = _
    unfold b_X2_wrongsBy_6
    rw [if_neg (fun q => absurd ((z_le (by omega) (by omega)).mp q) (by omega))]
    have e0 : nI i + 2 * nI k = nI (i + 2 * k) := by rw [lit_2, pk_mul, nI_add]
    have e1 : nI (i + 2 * k) + 1 = nI (i + 2 * k + 1) := by rw [lit_1, nI_add]
    have ev : nI v + 1 = nI (v + 1) := by rw [lit_1, nI_add]
    have ek : nI k + 1 = nI (k + 1) := by rw [lit_1, nI_add]
    have hv0 : vp_in (nI (i + 2 * k)) 40 := vp_in_nI (by omega) (by decide)
    have hv1 : vp_in (nI (i + 2 * k + 1)) 40 := vp_in_nI (by omega) (by decide)
    have c0 : (nI (i + 2 * k)).toNatClampNeg = i + 2 * k := nI_clamp (by omega)
    have c1 : (nI (i + 2 * k + 1)).toNatClampNeg = i + 2 * k + 1 := nI_clamp (by omega)
    simp only [e0, e1, hv0, hv1, c0, c1, true_and, forall_eq, hf _ (show i + 2 * k < 40 by omega), hf _ (show i + 2 * k + 1 < 40 by omega), j_X2_wrongsBy_56, j_X2_wrongsBy_57, and_self, if_true, z10, if_false, true_and, h5, t_around h5 (show 0 < K by omega) (show K < 2 ^ 31 by omega), ev, ek, ih n (k + 1) _ (show k + 1 + r = m by omega) (show r < n by omega)]
    show _ = Q (nI (wrR K f i x1 r (k + 1) (if okS K (f (i + 2 * k)) (f (i + 2 * k + 1)) x1 then v else v + 1))) σ
    have z : (0 : Int32).toInt = 0 := by decide
    have eK : (nI K).toInt = K := nI_toInt (by omega)
    by_cases a : f (i + 2 * k) < 0
    · rw [if_pos a, if_neg]
      intro q
      rw [fa_lt, z] at a
      have := q.1
      omega
    · rw [if_neg a]
      rw [fa_lt, z] at a
      by_cases b : nI K ≤ f (i + 2 * k)
      · rw [if_pos b, if_neg]
        intro q
        rw [fa_le, eK] at b
        have := q.1
        omega
      · rw [if_neg b]
        rw [fa_le, eK] at b
        by_cases d : fov K (f (i + 2 * k) + x1) = f (i + 2 * k + 1)
        · rw [if_pos d, if_pos ⟨by omega, d.symm⟩]
        · rw [if_neg d, if_neg (fun q => d q.2.symm)]
theorem l_shiftsBy {c i m : Nat} {t : Int32} (hN : 5000 ≤ N) (h5 : σ 33 5 = nI K) (hK : 2 ≤ K ∧ K ≤ 12) (hf : ∀ j, j < 40 → σ c j = f j) (hi : i + 2 * m ≤ 40) : ∀ (r n k : Nat) (s : Int32), k + r = K → r < n → l_X2_shiftsBy_6 N Q c (nI i) (nI m) t n s (nI k) σ = Q (shR K f i m t r k s) σ := by
  intro r
  induction r with
  | zero =>
    intro n k s hk hn
    obtain ⟨n, rfl⟩ : ∃ j, n = j + 1 := ⟨n - 1, by omega⟩
    show b_X2_shiftsBy_6 N Q c (nI i) (nI m) t _ s (nI k) σ = _
    unfold b_X2_shiftsBy_6
    rw [h5, if_pos ((z_le (by omega) (by omega)).mpr (by omega))]
    rfl
  | succ r ih =>
    intro n k s hk hn
    obtain ⟨n, rfl⟩ : ∃ j, n = j + 1 := ⟨n - 1, by omega⟩
    show b_X2_shiftsBy_6 N Q c (nI i) (nI m) t _ s (nI k) σ = _
    unfold b_X2_shiftsBy_6
    rw [h5, if_neg (fun q => absurd ((z_le (by omega) (by omega)).mp q) (by omega))]
    have ek : nI k + 1 = nI (k + 1) := by rw [lit_1, nI_add]
    have w : ∀ Q, w_X2_wrongsBy N σ (nI k) c (nI i) (nI m) Q = _ := fun Q => l_wrongsBy (N := N) (Q := Q) (x1 := nI k) h5 hK hf hi m N 0 0 (by omega) (by omega)
    rw [w]
    simp only [forall_eq, ek, ih n (k + 1) _ (show k + 1 + r = K by omega) (show r < n by omega)]
    show _ = Q (shR K f i m t r (k + 1) (if t < nI (wrR K f i (nI k) m 0 0) then s else s ||| ((1 : Int32) <<< (nI k &&& 31)))) σ
    by_cases d : t < nI (wrR K f i (nI k) m 0 0)
    · rw [if_pos d, if_pos d]
    · rw [if_neg d, if_neg d]
theorem l_struck85 {a i m : Nat} {x4 x6 x7 : Int32} (ha : a < 8) (h0 : σ 59 0 = nI K) (hK : 2 ≤ K ∧ K ≤ 12) (hf : ∀ j, j < 40 → σ 58 (40 * a + j) = f j) (hi : i + 2 * m ≤ 40) : ∀ (r n k v : Nat), k + r = m → r < n → l_X7_struck_85 N Q (nI a) (nI i) (nI m) x4 x6 x7 E n (nI v) (nI k) σ = E (nI (wrR K f i x7 r k v)) σ := by
  intro r
  induction r with
  | zero =>
    intro n k v hk hn
    obtain ⟨n, rfl⟩ : ∃ j, n = j + 1 := ⟨n - 1, by omega⟩
    show b_X7_struck_85 N Q (nI a) (nI i) (nI m) x4 x6 x7 E _ (nI v) (nI k) σ = _
    unfold b_X7_struck_85
    rw [if_pos ((z_le (by omega) (by omega)).mpr (by omega))]
    rfl
  | succ r ih =>
    intro n k v hk hn
    obtain ⟨n, rfl⟩ : ∃ j, n = j + 1 := ⟨n - 1, by omega⟩
    show b_X7_struck_85 N Q (nI a) (nI i) (nI m) x4 x6 x7 E _ (nI v) (nI k) σ = _
    unfold b_X7_struck_85
    rw [if_neg (fun q => absurd ((z_le (by omega) (by omega)).mp q) (by omega))]
    have e0 : 40 * nI a + nI i + 2 * nI k = nI (40 * a + (i + 2 * k)) := by rw [lit_2, lit_40, pk_mul, pk_mul, nI_add, nI_add, Nat.add_assoc]
    have e1 : nI (40 * a + (i + 2 * k)) + 1 = nI (40 * a + (i + 2 * k + 1)) := by rw [lit_1, nI_add, Nat.add_assoc]
    have ev : nI v + 1 = nI (v + 1) := by rw [lit_1, nI_add]
    have ek : nI k + 1 = nI (k + 1) := by rw [lit_1, nI_add]
    have hv0 : vp_in (nI (40 * a + (i + 2 * k))) 320 := vp_in_nI (by omega) (by decide)
    have hv1 : vp_in (nI (40 * a + (i + 2 * k + 1))) 320 := vp_in_nI (by omega) (by decide)
    have c0 : (nI (40 * a + (i + 2 * k))).toNatClampNeg = 40 * a + (i + 2 * k) := nI_clamp (by omega)
    have c1 : (nI (40 * a + (i + 2 * k + 1))).toNatClampNeg = 40 * a + (i + 2 * k + 1) := nI_clamp (by omega)
    simp only [e0, e1, hv0, hv1, c0, c1, true_and, forall_eq, hf _ (show i + 2 * k < 40 by omega), hf _ (show i + 2 * k + 1 < 40 by omega), j_X7_struck_166, j_X7_struck_167, cl0, vq0, cl1, vq1, cl2, vq2, cl3, vq3, cl4, vq4, cl5, vq5, h0, t_rangeM (show K < 1000 by omega), t_over h0 (show 0 < K by omega) (show K < 2 ^ 31 by omega), and_self, if_true, z10, if_false, true_and, ev, ek, Int32.add_zero, ih n (k + 1) _ (show k + 1 + r = m by omega) (show r < n by omega)]
    show _ = E (nI (wrR K f i x7 r (k + 1) (if okS K (f (i + 2 * k)) (f (i + 2 * k + 1)) x7 then v else v + 1))) σ
    by_cases a : 0 ≤ (f (i + 2 * k)).toInt ∧ (f (i + 2 * k)).toInt < K
    · simp only [a, and_self, if_true, z10, if_false, true_and]
      by_cases d : f (i + 2 * k + 1) = fov K (f (i + 2 * k) + x7)
      · rw [if_pos d, if_pos ⟨a, d⟩]
      · rw [if_neg d, if_neg (fun q => d q.2)]
    · simp only [a, and_self, if_true, z10, if_false, true_and]
      rw [if_neg (fun q => a q.1)]
theorem l_struck68 {a i m : Nat} {t : Int32} (hN : 5000 ≤ N) (ha : a < 8) (h0 : σ 59 0 = nI K) (hK : 2 ≤ K ∧ K ≤ 12) (hf : ∀ j, j < 40 → σ 58 (40 * a + j) = f j) (hi : i + 2 * m ≤ 40) : ∀ (r n k : Nat) (s : Int32), k + r = K → r < n → l_X7_struck_68 N Q (nI a) (nI i) (nI m) t E n s (nI k) σ = E (shR K f i m t r k s) σ := by
  intro r
  induction r with
  | zero =>
    intro n k s hk hn
    obtain ⟨n, rfl⟩ : ∃ j, n = j + 1 := ⟨n - 1, by omega⟩
    show b_X7_struck_68 N Q (nI a) (nI i) (nI m) t E _ s (nI k) σ = _
    unfold b_X7_struck_68
    simp only [cl0, vq0, cl1, vq1, cl2, vq2, cl3, vq3, cl4, vq4, cl5, vq5, true_and, h0]
    rw [if_pos ((z_le (by omega) (by omega)).mpr (by omega))]
    rfl
  | succ r ih =>
    intro n k s hk hn
    obtain ⟨n, rfl⟩ : ∃ j, n = j + 1 := ⟨n - 1, by omega⟩
    show b_X7_struck_68 N Q (nI a) (nI i) (nI m) t E _ s (nI k) σ = _
    unfold b_X7_struck_68
    simp only [cl0, vq0, cl1, vq1, cl2, vq2, cl3, vq3, cl4, vq4, cl5, vq5, true_and, h0]
    rw [if_neg (fun q => absurd ((z_le (by omega) (by omega)).mp q) (by omega))]
    have ek : nI k + 1 = nI (k + 1) := by rw [lit_1, nI_add]
    refine (l_struck85 (N := N) (Q := Q) (x4 := t) (x6 := s) (x7 := nI k) ha h0 hK hf hi m N 0 0 (by omega) (by omega)).trans ?_
    simp only [forall_eq, ek, or_0, ih n (k + 1) _ (show k + 1 + r = K by omega) (show r < n by omega)]
    show _ = E (shR K f i m t r (k + 1) (if t < nI (wrR K f i (nI k) m 0 0) then s else s ||| ((1 : Int32) <<< (nI k &&& 31)))) σ
    by_cases d : t < nI (wrR K f i (nI k) m 0 0)
    · rw [if_pos d, if_pos d]
    · rw [if_neg d, if_neg d]
theorem t_lacks {a n c : Nat} {x2 : Int32} (ha : a < 8) (h6 : σ 57 a = nI n) (hn : n ≤ 40) (hc : c ≤ 40) : w_X7_lacks N σ (nI a) x2 (nI c) Q = if 0 ≤ x2.toInt ∧ x2.toInt + c ≤ n then Q 0 σ else Q (-1000010 - 2) (st2 σ 55 3 2) := by
  have hv : vp_in (nI a) 8 := vp_in_nI ha (by decide)
  have ca : (nI a).toNatClampNeg = a := nI_clamp (by omega)
  have es : ((nI n - nI c).toInt64).toInt = (n : Int) - c := by
    rw [Int32.toInt_toInt64, fb_subI] <;> rw [nI_toInt (by omega), nI_toInt (by omega)] <;> omega
  unfold w_X7_lacks
  simp only [hv, ca, true_and, h6, nI_pos' (show n < 2 ^ 31 by omega), if_true, t_find]
  rw [t_in32 0 ((n : Int) - c) (show (0 : Int64).toInt = 0 by decide) es]
  by_cases h : 0 ≤ x2.toInt ∧ x2.toInt + c ≤ n
  · rw [if_pos h, if_pos (by omega)]
    simp only [z10, if_false]
  · rw [if_neg h, if_neg (by omega)]
    simp only [if_true]
theorem t_lacks1 {a : Nat} {x2 x3 : Int32} (ha : a < 8) (h6 : σ 57 a = -1) : w_X7_lacks N σ (nI a) x2 x3 Q = Q (-1000010 - 1) (st2 σ 55 3 1) := by
  have hv : vp_in (nI a) 8 := vp_in_nI ha (by decide)
  have ca : (nI a).toNatClampNeg = a := nI_clamp (by omega)
  unfold w_X7_lacks
  simp only [hv, ca, true_and, h6, m1_nle, if_false, t_find]
theorem l12 : ¬ (0 : Int32) ≤ -1000010 - 2 := by decide
theorem l11 : ¬ (0 : Int32) ≤ -1000010 - 1 := by decide
theorem l10 : (0 : Int32) ≤ 0 := by decide
end ST
