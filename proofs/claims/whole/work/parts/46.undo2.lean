/-! ===== undo ===== -/
section AX
variable {N : Nat} {σ : kS} {V : Nat → Nat → Nat} {m nx : Nat} {Q : Int32 → kS → Prop} {Qv : kS → Prop} {G : Int32 → Int32 → kS → Prop}
theorem undo_done {τ ω : kS} {u : Nat} (hI : Inv σ) (t4 : σ 55 4 = 1) (hK : KC σ V (m + 1) nx) (hKM : KM σ V (m + 1)) (hu : u = (nx + 23) % 24) (hC : CH τ 33 (V 1)) (e3 : τ 45 3 = nI u) (e4 : τ 45 4 = nI m) (h1 : ∀ c k, ¬ ((33 ≤ c ∧ c ≤ 38) ∨ c = 45) → τ c k = σ c k) (fi : ∀ c k, ¬ (c = 59 ∨ (c = 55 ∧ k = 17)) → ω c k = τ c k) (e5 : ω 55 17 = nI m) (hM : MH ω (V 1)) : Inv ω := by
  obtain ⟨c0, v0, m1, n1, x4, x3, hj⟩ := hK
  obtain ⟨k1, k2, k3⟩ := hKM
  refine Inv_acts (V := fun j => V (j + 1)) (m := m) (nx := u) hI (fun c k q => ?_) t4 ⟨CH_cong (fun d k h1 h2 => fi d k (by omega)) hC, (hj 0 (by omega)).2.1, by omega, by omega, ?_, ?_, fun j hj' => ?_⟩ ⟨hM, e5, fun j hj' i hi => ?_⟩
  · rw [fi _ _ (by omega), h1 _ _ (by omega)]
  · rw [fi _ _ (by omega), e4]
  · rw [fi _ _ (by omega), e3]
  · obtain ⟨a, b, s', p', w', q1, q2, q3, q4, q5⟩ := hj (j + 1) (by omega)
    have e : (u + 23 - j) % 24 = (nx + 23 - (j + 1)) % 24 := by omega
    refine ⟨a, b, s', p', w', ?_, ?_, ?_, q4, q5⟩
    · rw [e, fi _ _ (by omega), h1 _ _ (by omega), q1]
    · rw [e, fi _ _ (by omega), h1 _ _ (by omega), q2]
    · rw [e, fi _ _ (by omega), h1 _ _ (by omega), q3]
  · rw [fi _ _ (by omega), h1 _ _ (by omega)]
    have := k3 (j + 1) (by omega) i hi
    rw [← this]
    congr 1
    omega
theorem P_undo (hN : 5000 ≤ N) (hI : Inv σ) (hG : ∀ r τ, Inv τ → G r r τ) : w_X6_undo N σ (fun r1 τ => w_X7_undo N τ (fun r2 υ => G r1 r2 υ)) := by
  obtain ⟨H, ⟨hE, hC, hM, h4⟩, hR, hT, hTr, hIM, hA, hs⟩ := hI
  have hI : Inv σ := ⟨H, ⟨hE, hC, hM, h4⟩, hR, hT, hTr, hIM, hA, hs⟩
  obtain ⟨m, nx, V, m1, n1, a1, a2, a3, a4, a5⟩ := hA
  unfold w_X6_undo
  by_cases e : m = 0
  · subst e
    have a1' : σ 45 4 = 0 := a1
    have a2' : σ 55 17 = 0 := a2
    simp only [a1', if_true, w_X7_undo, a2', hG _ _ hI]
  · obtain ⟨m, rfl⟩ : ∃ j, m = j + 1 := ⟨m - 1, by omega⟩
    subst a4
    have hV := (a5 0 (by omega)).1
    have b0 := hV.1
    have t4 : σ 55 4 = 1 := by
      rw [h4, if_neg (by omega)]
      rfl
    have hK : KC σ V (m + 1) nx := ⟨hC, hV, m1, n1, a1, a3, fun j hj => ⟨(a5 j hj).1, (a5 j hj).2.1, (a5 j hj).2.2.1⟩⟩
    have hKM : KM σ V (m + 1) := ⟨hM, a2, fun j hj => (a5 j hj).2.2.2⟩
    obtain ⟨-, hV1, ⟨s, p, w, q1, q2, q3, q4, q5⟩, q6⟩ := a5 0 (by omega)
    obtain ⟨u, hu⟩ : ∃ u, u = (nx + 23) % 24 := ⟨_, rfl⟩
    rw [show (nx + 23 - 0) % 24 = u by omega] at q1 q2 q3
    have hu2 : u < 24 := by omega
    have hvu : vp_in (nI u) 24 := vp_in_nI hu2 (by decide)
    have cu : (nI u).toNatClampNeg = u := nI_clamp (by omega)
    have er : krem (nI nx + 24 - 1) 24 = nI u := by
      have : nI nx + 24 - 1 = nI (nx + 23) := by
        rw [lit_24, nI_add, fa_eq, fb_subI, nI_toInt (by omega), nI_toInt (by omega)]
        · have z : (1 : Int32).toInt = 1 := by decide
          omega
        · rw [nI_toInt (by omega)]
          have z : (1 : Int32).toInt = 1 := by decide
          omega
        · rw [nI_toInt (by omega)]
          have z : (1 : Int32).toInt = 1 := by decide
          omega
      rw [this, lit_24, krem_nI (by omega) (by omega) (by omega), hu]
    have em : nI (m + 1) - 1 = nI m := by
      rw [fa_eq, fb_subI, nI_toInt (by omega), nI_toInt (by omega)]
      · have z : (1 : Int32).toInt = 1 := by decide
        omega
      · rw [nI_toInt (by omega)]
        have z : (1 : Int32).toInt = 1 := by decide
        omega
      · rw [nI_toInt (by omega)]
        have z : (1 : Int32).toInt = 1 := by decide
        omega
    have nz : ¬ nI (m + 1) = 0 := by
      rw [lit_0, z_eq (by omega) (by omega)]
      omega
    -- the reference's half, from any store the class may leave
    have fin : ∀ τ : kS, CH τ 33 (V 1) → τ 45 3 = nI u → τ 45 4 = nI m → (∀ c k, ¬ ((33 ≤ c ∧ c ≤ 38) ∨ c = 45) → τ c k = σ c k) → w_X7_undo N τ (fun r2 υ => G (nI m) r2 υ) := by
      intro τ c1 c2 c3 c4
      have z17 : τ 55 17 = nI (m + 1) := by rw [c4 _ _ (by omega), a2]
      unfold w_X7_undo
      simp only [z17, nz, if_false, forall_eq, em]
      have w1 := l_undo22 (N := N) (Q := fun r2 υ => G (nI m) r2 υ) (σ := st2 τ 55 17 (nI m)) (m := m) (by omega) st_eq 57 N 0 (by omega) (by omega)
      simp only [blk_0] at w1
      refine Eq.mpr w1 ?_
      refine hG _ _ (undo_done hI t4 hK hKM hu c1 c2 c3 c4 (fun c k q => ?_) ?_ (fun i hi => ?_))
      · rw [blk_out (by omega), st_ne (by omega)]
      · rw [blk_out (by omega), st_eq]
      · rw [blk_in (by omega) (by omega), st_ne (by omega), c4 _ _ (by omega), Nat.sub_zero]
        have := q6 i hi
        rw [← this]
        congr 1
    have s3 : st2 (st2 σ 45 3 (nI u)) 45 4 (nI m) 45 3 = nI u := by rw [st_ne (by omega), st_eq]
    have s46 : st2 (st2 σ 45 3 (nI u)) 45 4 (nI m) 46 u = nI s := by rw [st_ne (by omega), st_ne (by omega), q1]
    have s47 : st2 (st2 σ 45 3 (nI u)) 45 4 (nI m) 47 u = nI p := by rw [st_ne (by omega), st_ne (by omega), q2]
    have s48 : st2 (st2 σ 45 3 (nI u)) 45 4 (nI m) 48 u = nI w := by rw [st_ne (by omega), st_ne (by omega), q3]
    have s44 : st2 σ 45 3 (nI u) 45 4 = nI (m + 1) := by rw [st_ne (by omega), a1]
    have hC' : CH (st2 (st2 σ 45 3 (nI u)) 45 4 (nI m)) 33 (V 0) := CH_cong (fun d k h1 h2 => by rw [st_ne (by omega), st_ne (by omega)]) hC
    rw [a1, if_neg nz]
    unfold w_X0_takeBack
    simp only [a3, n24, true_and, forall_eq, er, s44, em, s3, hvu, cu, s46, s47, s48]
    rcases q5 with ⟨rfl, p1, p2⟩ | ⟨rfl, p2⟩ | ⟨rfl, p1, p2⟩
    · have b5 := hV.2.2.2.2.1
      have hvp : vp_in (nI p) 5 := vp_in_nI (by omega) (by decide)
      have cp : (nI p).toNatClampNeg = p := nI_clamp (by omega)
      rw [if_pos (show nI 2 = 2 from rfl)]
      simp only [hvp, cp, true_and]
      have r4 : st2 (st2 (st2 σ 45 3 (nI u)) 45 4 (nI m)) (33 + 4) p (nI w) 45 4 = nI m := by rw [st_ne (by omega), st_eq]
      rw [r4]
      have w0 : w < V 0 0 := by
        have x0 := p2 0 (by omega)
        have x4 := p2 4 (by omega)
        have x7 := p2 (47 + p) (by omega)
        rw [if_neg (by omega)] at x0 x4
        rw [if_pos rfl] at x7
        have := (hV1.2.2.2.2.2.2.2.2 p (show p < V 1 4 by rw [x4]; exact p1)).2.1
        rw [show V (0 + 1) (47 + p) = w from x7, show V (0 + 1) 0 = V 0 0 from x0] at this
        exact this
      refine fin _ (CH_H (HV_up47 (v := w) hV p1 w0) (fun i hi => ?_) (CH_up47 hV hC' p1)) ?_ r4 (fun c k q => ?_)
      · rw [show V 1 i = _ from p2 i hi]
        rfl
      · rw [st_ne (by omega), st_ne (by omega), st_eq]
      · rw [st_ne (by omega), st_ne (by omega), st_ne (by omega)]
    · rw [if_neg (show ¬ nI 1 = 2 by decide)]
      have r3 : st2 (st2 (st2 σ 45 3 (nI u)) 45 4 (nI m)) 33 7 (nI w) 45 3 = nI u := by rw [st_ne (by omega), s3]
      have r4 : st2 (st2 (st2 σ 45 3 (nI u)) 45 4 (nI m)) 33 7 (nI w) 45 4 = nI m := by rw [st_ne (by omega), st_eq]
      have r6 : st2 (st2 (st2 σ 45 3 (nI u)) 45 4 (nI m)) 33 7 (nI w) 46 u = nI 1 := by rw [st_ne (by omega), s46]
      have y1 : ¬ nI 1 = 0 := by decide
      simp only [r3, hvu, cu, r6, y1, true_and, if_false, r4]
      have w0 : w < V 0 0 := by
        have x0 := p2 0 (by omega)
        have x7 := p2 2 (by omega)
        rw [if_neg (by omega)] at x0
        rw [if_pos rfl] at x7
        have := hV1.2.2.1
        rw [x0, x7] at this
        exact this
      refine fin _ (CH_H (HV_up2 (v := w) hV w0) (fun i hi => ?_) (CH_up2 hC')) r3 r4 (fun c k q => ?_)
      · rw [show V 1 i = _ from p2 i hi]
        rfl
      · rw [st_ne (by omega), st_ne (by omega), st_ne (by omega)]
    · rw [if_neg (show ¬ nI 0 = 2 by decide)]
      have r3 : st2 (st2 (st2 σ 45 3 (nI u)) 45 4 (nI m)) 33 7 (nI w) 45 3 = nI u := by rw [st_ne (by omega), s3]
      have r6 : st2 (st2 (st2 σ 45 3 (nI u)) 45 4 (nI m)) 33 7 (nI w) 46 u = nI 0 := by rw [st_ne (by omega), s46]
      have r8 : st2 (st2 (st2 σ 45 3 (nI u)) 45 4 (nI m)) 33 7 (nI w) 33 8 - 1 = nI (V 0 5 - 1) := by
        have b5 := hV.2.2.2.2.2.1
        rw [st_ne (by omega), hC'.2.2.2.2.2.1, fa_eq, fb_subI, nI_toInt (by omega), nI_toInt (by omega)]
        · have z : (1 : Int32).toInt = 1 := by decide
          omega
        · rw [nI_toInt (by omega)]
          have z : (1 : Int32).toInt = 1 := by decide
          omega
        · rw [nI_toInt (by omega)]
          have z : (1 : Int32).toInt = 1 := by decide
          omega
      have r4 : st2 (st2 (st2 (st2 σ 45 3 (nI u)) 45 4 (nI m)) 33 7 (nI w)) 33 8 (nI (V 0 5 - 1)) 45 4 = nI m := by rw [st_ne (by omega), st_ne (by omega), st_eq]
      have y0 : (nI 0 = (0 : Int32)) = True := eq_true rfl
      simp only [r3, hvu, cu, r6, y0, true_and, if_true, r8, r4]
      have w0 : w < V 0 0 := by
        have x0 := p2 0 (by omega)
        have x7 := p2 2 (by omega)
        rw [if_neg (by omega), if_neg (by omega)] at x0
        rw [if_pos rfl] at x7
        have := hV1.2.2.1
        rw [x0, x7] at this
        exact this
      have b5 := hV.2.2.2.2.2.1
      refine fin _ (CH_H (HV_up5 (v := V 0 5 - 1) (HV_up2 (v := w) hV w0) (by omega)) (fun i hi => ?_) (CH_up5 (CH_up2 hC'))) ?_ r4 (fun c k q => ?_)
      · rw [show V 1 i = _ from p2 i hi]
        by_cases e2 : i = 2
        · rw [if_pos e2, e2]
          rfl
        · rw [if_neg e2]
          by_cases e5 : i = 5
          · rw [if_pos e5, e5, upH_eq]
          · rw [if_neg e5, upH_ne e5, upH_ne e2]
      · rw [st_ne (by omega), r3]
      · rw [st_ne (by omega), st_ne (by omega), st_ne (by omega), st_ne (by omega)]
end AX
