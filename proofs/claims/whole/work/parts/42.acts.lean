/-! ===== acts ===== -/
def vps (A : Nat → Nat) (V : Nat → Nat → Nat) : Nat → Nat → Nat
  | 0 => A
  | j + 1 => V j
def upH (H : Nat → Nat) (a v : Nat) : Nat → Nat := fun i => if i = a then v else H i
theorem upH_eq {H : Nat → Nat} {a v : Nat} : upH H a v a = v := if_pos rfl
theorem upH_ne {H : Nat → Nat} {a v i : Nat} (h : i ≠ a) : upH H a v i = H i := if_neg h
theorem HV_up2 {H : Nat → Nat} {v : Nat} (h : HV H) (hv : v < H 0) : HV (upH H 2 v) := by
  obtain ⟨a, b, c, d, e, f, g, i, j⟩ := h
  refine ⟨a, b, hv, d, e, f, fun p hp => ?_, fun p k hp hk => ?_, fun q hq => ?_⟩
  · rw [upH_ne (by omega)]
    exact g p hp
  · rw [upH_ne (by omega)] at hk ⊢
    exact i p k hp hk
  · rw [upH_ne (by omega), upH_ne (by omega), upH_ne (by omega), upH_ne (by omega)]
    exact j q hq
theorem HV_up5 {H : Nat → Nat} {v : Nat} (h : HV H) (hv : v ≤ 999) : HV (upH H 5 v) := by
  obtain ⟨a, b, c, d, e, f, g, i, j⟩ := h
  refine ⟨a, b, c, d, e, hv, fun p hp => ?_, fun p k hp hk => ?_, fun q hq => ?_⟩
  · rw [upH_ne (by omega)]
    exact g p hp
  · rw [upH_ne (by omega)] at hk ⊢
    exact i p k hp hk
  · rw [upH_ne (by omega), upH_ne (by omega), upH_ne (by omega), upH_ne (by omega)]
    exact j q hq
theorem HV_up47 {H : Nat → Nat} {v u : Nat} (h : HV H) (hu : u < H 4) (hv : v < H 0) : HV (upH H (47 + u) v) := by
  obtain ⟨a, b, c, d, e, f, g, i, j⟩ := h
  have x0 : upH H (47 + u) v 0 = H 0 := upH_ne (by omega)
  have x1 : upH H (47 + u) v 1 = H 1 := upH_ne (by omega)
  have x2 : upH H (47 + u) v 2 = H 2 := upH_ne (by omega)
  have x3 : upH H (47 + u) v 3 = H 3 := upH_ne (by omega)
  have x4 : upH H (47 + u) v 4 = H 4 := upH_ne (by omega)
  have x5 : upH H (47 + u) v 5 = H 5 := upH_ne (by omega)
  unfold HV
  rw [x0, x1, x2, x3, x4, x5]
  refine ⟨a, b, c, d, e, f, fun p hp => ?_, fun p k hp hk => ?_, fun q hq => ?_⟩
  · rw [upH_ne (by omega)]
    exact g p hp
  · rw [upH_ne (by omega)] at hk
    have := g p hp
    rw [upH_ne (by omega)]
    exact i p k hp hk
  · have := j q hq
    rw [upH_ne (by omega), upH_ne (show 52 + q ≠ 47 + u by omega)]
    by_cases e' : q = u
    · subst e'
      rw [upH_eq]
      exact ⟨this.1, hv, this.2.2⟩
    · rw [upH_ne (by omega)]
      exact this
theorem CH_up2 {σ : kS} {H : Nat → Nat} {v : Nat} (h : CH σ 33 H) : CH (st2 σ 33 7 (nI v)) 33 (upH H 2 v) := by
  obtain ⟨a, b, c, d, e, f, g, i, j⟩ := h
  refine ⟨?_, ?_, ?_, ?_, ?_, ?_, fun p hp => ?_, fun p k hp hk => ?_, fun q hq => ?_⟩
  · exact (st_ne (by omega)).trans a
  · exact (st_ne (by omega)).trans b
  · exact st_eq
  · exact (st_ne (by omega)).trans d
  · exact (st_ne (by omega)).trans e
  · exact (st_ne (by omega)).trans f
  · rw [upH_ne (by omega), st_ne (by omega)]
    exact g p hp
  · rw [upH_ne (by omega)] at hk ⊢
    rw [st_ne (by omega)]
    exact i p k hp hk
  · rw [upH_ne (by omega), upH_ne (by omega), upH_ne (by omega), st_ne (by omega), st_ne (by omega), st_ne (by omega)]
    exact j q hq
theorem CH_up5 {σ : kS} {H : Nat → Nat} {v : Nat} (h : CH σ 33 H) : CH (st2 σ 33 8 (nI v)) 33 (upH H 5 v) := by
  obtain ⟨a, b, c, d, e, f, g, i, j⟩ := h
  refine ⟨?_, ?_, ?_, ?_, ?_, ?_, fun p hp => ?_, fun p k hp hk => ?_, fun q hq => ?_⟩
  · exact (st_ne (by omega)).trans a
  · exact (st_ne (by omega)).trans b
  · exact (st_ne (by omega)).trans c
  · exact (st_ne (by omega)).trans d
  · exact (st_ne (by omega)).trans e
  · exact st_eq
  · rw [upH_ne (by omega), st_ne (by omega)]
    exact g p hp
  · rw [upH_ne (by omega)] at hk ⊢
    rw [st_ne (by omega)]
    exact i p k hp hk
  · rw [upH_ne (by omega), upH_ne (by omega), upH_ne (by omega), st_ne (by omega), st_ne (by omega), st_ne (by omega)]
    exact j q hq
theorem CH_up47 {σ : kS} {H : Nat → Nat} {v u : Nat} (hV : HV H) (h : CH σ 33 H) (hu : u < H 4) : CH (st2 σ 37 u (nI v)) 33 (upH H (47 + u) v) := by
  obtain ⟨a, b, c, d, e, f, g, i, j⟩ := h
  have x0 : upH H (47 + u) v 0 = H 0 := upH_ne (by omega)
  have x1 : upH H (47 + u) v 1 = H 1 := upH_ne (by omega)
  have x2 : upH H (47 + u) v 2 = H 2 := upH_ne (by omega)
  have x3 : upH H (47 + u) v 3 = H 3 := upH_ne (by omega)
  have x4 : upH H (47 + u) v 4 = H 4 := upH_ne (by omega)
  have x5 : upH H (47 + u) v 5 = H 5 := upH_ne (by omega)
  have h3 := hV.2.2.2.1
  unfold CH
  rw [x0, x1, x2, x3, x4, x5]
  refine ⟨?_, ?_, ?_, ?_, ?_, ?_, fun p hp => ?_, fun p k hp hk => ?_, fun q hq => ?_⟩
  · exact (st_ne (by omega)).trans a
  · exact (st_ne (by omega)).trans b
  · exact (st_ne (by omega)).trans c
  · exact (st_ne (by omega)).trans d
  · exact (st_ne (by omega)).trans e
  · exact (st_ne (by omega)).trans f
  · rw [upH_ne (by omega), st_ne (by omega)]
    exact g p hp
  · rw [upH_ne (by omega)] at hk
    have := (hV.2.2.2.2.2.2.1 p hp).2
    rw [upH_ne (by omega), st_ne (by omega)]
    exact i p k hp hk
  · have := hV.2.2.2.2.1
    rw [upH_ne (by omega), upH_ne (show 52 + q ≠ 47 + u by omega), st_ne (by omega), st_ne (c' := 33 + 5) (by omega)]
    by_cases e' : q = u
    · subst e'
      rw [upH_eq]
      exact ⟨(j q hq).1, st_eq, (j q hq).2.2⟩
    · rw [upH_ne (by omega), st_ne (by omega)]
      exact j q hq
theorem MH_up {σ : kS} {H : Nat → Nat} {a v : Nat} (h : MH σ H) : MH (st2 σ 59 a (nI v)) (upH H a v) := fun i hi => by
  by_cases e : i = a
  · subst e
    rw [upH_eq, st_eq]
  · rw [upH_ne e, st_ne (by omega), h i hi]
theorem krem_nI {a b : Nat} (ha : a < 2 ^ 31) (hb : 0 < b) (hb2 : b < 2 ^ 31) : krem (nI a) (nI b) = nI (a % b) := by
  have := Nat.mod_lt a hb
  rw [fa_eq, krem_toInt hb hb2, nI_toInt ha, nI_toInt (by omega)]
  rfl
def KCj (σ : kS) (V : Nat → Nat → Nat) (nx j : Nat) : Prop := HV (V j) ∧ HV (V (j + 1)) ∧ ∃ s p w : Nat, σ 46 ((nx + 23 - j) % 24) = nI s ∧ σ 47 ((nx + 23 - j) % 24) = nI p ∧ σ 48 ((nx + 23 - j) % 24) = nI w ∧ w < 12 ∧ actR s p w (V j) (V (j + 1))
def KC (σ : kS) (V : Nat → Nat → Nat) (m nx : Nat) : Prop := CH σ 33 (V 0) ∧ HV (V 0) ∧ m ≤ 24 ∧ nx < 24 ∧ σ 45 4 = nI m ∧ σ 45 3 = nI nx ∧ ∀ j, j < m → KCj σ V nx j
def KM (σ : kS) (V : Nat → Nat → Nat) (m : Nat) : Prop := MH σ (V 0) ∧ σ 55 17 = nI m ∧ ∀ j, j < m → ∀ i, i < 57 → σ 63 (57 * (m - 1 - j) + i) = nI (V (j + 1) i)
def kp (σ : kS) (nx m : Nat) (s p w : Int32) : kS := st2 (st2 (st2 (st2 (st2 σ 46 nx s) 47 nx p) 48 nx w) 45 3 (nI ((nx + 1) % 24))) 45 4 (nI (min (m + 1) 24))
section AT
variable {N : Nat} {σ : kS} {V : Nat → Nat → Nat} {m nx : Nat} {Q : Int32 → kS → Prop} {Qv : kS → Prop} {G : Int32 → Int32 → kS → Prop}
theorem n24 : (¬ (24 : Int32) = 0) = True := eq_true (by decide)
theorem t_keep {s p w : Int32} (h : KC σ V m nx) : w_X0_keep N σ s p w Qv = Qv (kp σ nx m s p w) := by
  obtain ⟨-, -, m1, n1, e4, e3, -⟩ := h
  have hv : vp_in (nI nx) 24 := vp_in_nI n1 (by decide)
  have cl : (nI nx).toNatClampNeg = nx := nI_clamp (by omega)
  have er : krem (nI nx + 1) 24 = nI ((nx + 1) % 24) := by rw [lit_1, nI_add, lit_24, krem_nI (by omega) (by omega) (by omega)]
  have em : kmin (nI m + 1) 24 = nI (min (m + 1) 24) := by rw [lit_1, nI_add, lit_24, kmin_nI (by omega) (by omega)]
  unfold w_X0_keep
  simp (disch := omega) only [e3, hv, cl, true_and, forall_eq, st_ne, n24, er, e4, em]
  rfl
theorem KC_keep {τ : kS} {A : Nat → Nat} {s p w : Nat} (h : KC σ V m nx) (hA : HV A) (hC : CH τ 33 A) (hr : actR s p w A (V 0)) (hw : w < 12) (hf : ∀ c k, (45 ≤ c ∧ c ≤ 48) → τ c k = kp σ nx m (nI s) (nI p) (nI w) c k) : KC τ (vps A V) (min (m + 1) 24) ((nx + 1) % 24) := by
  obtain ⟨c0, v0, m1, n1, e4, e3, hj⟩ := h
  refine ⟨hC, hA, by omega, by omega, ?_, ?_, fun j hj' => ?_⟩
  · rw [hf _ _ (by omega)]
    exact st_eq
  · rw [hf _ _ (by omega)]
    exact (st_ne (by omega)).trans st_eq
  · cases j with
    | zero =>
      have e : ((nx + 1) % 24 + 23 - 0) % 24 = nx := by omega
      refine ⟨hA, v0, s, p, w, ?_, ?_, ?_, hw, hr⟩
      · rw [e, hf _ _ (by omega)]
        unfold kp
        repeat (first | rw [st_ne (by omega)] | rw [blk_out (by omega)])
        rw [st_eq]
      · rw [e, hf _ _ (by omega)]
        unfold kp
        repeat (first | rw [st_ne (by omega)] | rw [blk_out (by omega)])
        rw [st_eq]
      · rw [e, hf _ _ (by omega)]
        unfold kp
        repeat (first | rw [st_ne (by omega)] | rw [blk_out (by omega)])
        rw [st_eq]
    | succ j =>
      obtain ⟨a, b, s', p', w', q1, q2, q3, q4, q5⟩ := hj j (by omega)
      have e : ((nx + 1) % 24 + 23 - (j + 1)) % 24 = (nx + 23 - j) % 24 := by omega
      have ne : (nx + 23 - j) % 24 ≠ nx := by omega
      refine ⟨a, b, s', p', w', ?_, ?_, ?_, q4, q5⟩
      · rw [e, hf _ _ (by omega)]
        unfold kp
        repeat (first | rw [st_ne (by omega)] | rw [blk_out (by omega)])
        exact q1
      · rw [e, hf _ _ (by omega)]
        unfold kp
        repeat (first | rw [st_ne (by omega)] | rw [blk_out (by omega)])
        exact q2
      · rw [e, hf _ _ (by omega)]
        unfold kp
        repeat (first | rw [st_ne (by omega)] | rw [blk_out (by omega)])
        exact q3
theorem KC_cong {τ : kS} (hf : ∀ c k, (33 ≤ c ∧ c ≤ 38) ∨ (45 ≤ c ∧ c ≤ 48) → τ c k = σ c k) (h : KC σ V m nx) : KC τ V m nx := by
  obtain ⟨c0, v0, m1, n1, e4, e3, hj⟩ := h
  refine ⟨CH_cong (fun d k h1 h2 => hf d k (by omega)) c0, v0, m1, n1, ?_, ?_, fun j hj' => ?_⟩
  · rw [hf _ _ (by omega), e4]
  · rw [hf _ _ (by omega), e3]
  · obtain ⟨a, b, s', p', w', q1, q2, q3, q4, q5⟩ := hj j hj'
    refine ⟨a, b, s', p', w', ?_, ?_, ?_, q4, q5⟩
    · rw [hf _ _ (by omega), q1]
    · rw [hf _ _ (by omega), q2]
    · rw [hf _ _ (by omega), q3]
theorem KM_cong {τ : kS} (hf : ∀ c k, c = 59 ∨ c = 63 ∨ (c = 55 ∧ k = 17) → τ c k = σ c k) (h : KM σ V m) : KM τ V m := by
  obtain ⟨a, b, c⟩ := h
  refine ⟨fun i hi => ?_, ?_, fun j hj i hi => ?_⟩
  · rw [hf _ _ (by omega), a i hi]
  · rw [hf _ _ (by omega), b]
  · rw [hf _ _ (by omega), c j hj i hi]
theorem t_note (hN : 5000 ≤ N) (h : KM σ V m) (hm : m ≤ 24) : ∃ τ, (∀ Qv, w_X7_note N σ Qv = Qv τ) ∧ (∀ c k, ¬ (c = 63 ∨ (c = 55 ∧ k = 17)) → τ c k = σ c k) ∧ τ 55 17 = nI (min (m + 1) 24) ∧ ∀ j, j < min (m + 1) 24 → ∀ i, i < 57 → τ 63 (57 * (min (m + 1) 24 - 1 - j) + i) = nI (V j i) := by
  obtain ⟨h1, h2, h3⟩ := h
  by_cases e : m = 24
  · subst e
    refine ⟨st2 (blk (st2 (blk σ 63 0 1311 (fun j => σ 63 (j + 57))) 55 17 (nI 23)) 63 (57 * 23) 57 (fun j => st2 (blk σ 63 0 1311 (fun j => σ 63 (j + 57))) 55 17 (nI 23) 59 j)) 55 17 (nI 24), fun Qv => ?_, fun c k q => ?_, ?_, fun j hj i hi => ?_⟩
    · unfold w_X7_note
      rw [if_pos (by rw [h2]; rfl)]
      have w1 := fun E => l_note11 (N := N) (σ := σ) (Qv := Qv) (E := E) 1311 N 0 (by omega) (by omega)
      simp only [blk_0] at w1
      refine (w1 _).trans ?_
      have e17 : blk σ 63 0 1311 (fun j => σ 63 (j + 57)) 55 17 = nI 24 := by rw [blk_out (by omega), h2]
      have e23 : nI 24 - 1 = nI 23 := by decide
      simp only [forall_eq, e17, e23]
      have w2 := fun E => l_note51 (N := N) (σ := st2 (blk σ 63 0 1311 (fun j => σ 63 (j + 57))) 55 17 (nI 23)) (Qv := Qv) (E := E) (m := 23) (by omega) st_eq 57 N 0 (by omega) (by omega)
      simp only [blk_0] at w2
      refine (w2 _).trans ?_
      have e18 : blk (st2 (blk σ 63 0 1311 (fun j => σ 63 (j + 57))) 55 17 (nI 23)) 63 (57 * 23) 57 (fun j => st2 (blk σ 63 0 1311 (fun j => σ 63 (j + 57))) 55 17 (nI 23) 59 j) 55 17 = nI 23 := by rw [blk_out (by omega), st_eq]
      rw [e18]
      rfl
    · repeat (first | rw [st_ne (by omega)] | rw [blk_out (by omega)])
    · rw [st_eq, show min (24 + 1) 24 = 24 by omega]
    · rw [show min (24 + 1) 24 = 24 by omega] at hj ⊢
      cases j with
      | zero =>
        rw [st_ne (by omega), blk_in (by omega) (by omega), st_ne (by omega), blk_out (by omega), h1 _ (by omega)]
        rw [show 57 * (24 - 1 - 0) + i - 57 * 23 = i by omega]
      | succ j =>
        rw [st_ne (by omega), blk_out (by omega), st_ne (by omega), blk_in (by omega) (by omega)]
        have := h3 j (by omega) i hi
        rw [← this]
        congr 1
        omega
  · refine ⟨st2 (blk σ 63 (57 * m) 57 (fun j => σ 59 j)) 55 17 (nI (m + 1)), fun Qv => ?_, fun c k q => ?_, ?_, fun j hj i hi => ?_⟩
    · unfold w_X7_note
      rw [if_neg (by rw [h2, lit_24, z_eq (by omega) (by omega)]; exact e)]
      have w2 := fun E => l_note51 (N := N) (σ := σ) (Qv := Qv) (E := E) (m := m) (by omega) h2 57 N 0 (by omega) (by omega)
      simp only [blk_0] at w2
      refine (w2 _).trans ?_
      have e18 : blk σ 63 (57 * m) 57 (fun j => σ 59 j) 55 17 = nI m := by rw [blk_out (by omega), h2]
      have e19 : nI m + 1 = nI (m + 1) := by rw [lit_1, nI_add]
      simp only [forall_eq, e18, e19]
    · repeat (first | rw [st_ne (by omega)] | rw [blk_out (by omega)])
    · rw [st_eq]
      congr 1
      omega
    · have em : min (m + 1) 24 = m + 1 := by omega
      rw [em] at hj ⊢
      cases j with
      | zero =>
        rw [st_ne (by omega), blk_in (by omega) (by omega), h1 _ (by omega)]
        rw [show 57 * (m + 1 - 1 - 0) + i - 57 * m = i by omega]
      | succ j =>
        rw [st_ne (by omega), blk_out (by omega)]
        have := h3 j (by omega) i hi
        rw [← this]
        congr 1
        omega
theorem Inv_acts {σ τ : kS} (hI : Inv σ) (hf : ∀ c k, ¬ ((33 ≤ c ∧ c ≤ 38) ∨ (45 ≤ c ∧ c ≤ 48) ∨ c = 59 ∨ c = 63 ∨ (c = 55 ∧ k = 17)) → τ c k = σ c k) (h4 : σ 55 4 = 1) (hc : KC τ V m nx) (hm : KM τ V m) : Inv τ := by
  obtain ⟨H, a, b, c, d, e, f, g⟩ := hI
  obtain ⟨c0, v0, m1, n1, e4, e3, hj⟩ := hc
  obtain ⟨k1, k2, k3⟩ := hm
  refine ⟨V 0, ⟨Or.inl v0, c0, k1, ?_⟩, RW_cong (fun c k q => hf c k (by omega)) b, TP_cong (fun c k q => hf c k (by omega)) c, TR_cong (fun c k q => hf c k (by omega)) d, IM_cong (fun c k q => hf c k (by omega)) e, ⟨m, nx, V, m1, n1, e4, k2, e3, rfl, fun j hj' => ?_⟩, by rw [hf _ _ (by omega), hf _ _ (by omega), g]⟩
  · have := v0.1
    rw [hf _ _ (by omega), h4, if_neg (by omega)]
    rfl
  · obtain ⟨a, b, r⟩ := hj j hj'
    exact ⟨a, b, r, k3 j hj'⟩
theorem Inv_K {H : Nat → Nat} (hV : HV H) (hC : CH σ 33 H) (hM : MH σ H) (hA : AC σ H) : ∃ m nx V, V 0 = H ∧ KC σ V m nx ∧ KM σ V m := by
  obtain ⟨m, nx, V, h1, h2, h3, h4, h5, h6, h7⟩ := hA
  refine ⟨m, nx, V, h6, ⟨?_, ?_, h1, h2, h3, h5, fun j hj => ?_⟩, ?_, h4, fun j hj => (h7 j hj).2.2.2⟩
  · rw [h6]; exact hC
  · rw [h6]; exact hV
  · exact ⟨(h7 j hj).1, (h7 j hj).2.1, (h7 j hj).2.2.1⟩
  · rw [h6]; exact hM
end AT
