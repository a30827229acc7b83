/-! ===== the start, and the law's loop ===== -/
theorem Inv_k0 : Inv k0 := by
  refine ⟨fun _ => 0, ⟨Or.inr (fun _ => rfl), ⟨rfl, rfl, rfl, rfl, rfl, rfl, fun p hp => absurd hp (Nat.not_lt_zero p), fun p k hp => absurd hp (Nat.not_lt_zero p), fun q hq => absurd hq (Nat.not_lt_zero q)⟩, fun i _ => rfl, rfl⟩, fun r hr => Or.inl ?_, ⟨rfl, 0, by omega, rfl, rfl, fun i hi => by omega⟩, ⟨0, by omega, rfl, rfl, fun i hi => by omega⟩, fun k hk => Or.inl ?_, ⟨0, 0, fun _ _ => 0, by omega, by omega, rfl, rfl, rfl, rfl, fun j hj => by omega⟩, rfl⟩
  · have c : r = 0 ∨ r = 1 ∨ r = 2 ∨ r = 3 ∨ r = 4 ∨ r = 5 ∨ r = 6 ∨ r = 7 := by omega
    rcases c with rfl | rfl | rfl | rfl | rfl | rfl | rfl | rfl
    · exact ⟨rfl, rfl⟩
    · exact ⟨rfl, rfl⟩
    · exact ⟨rfl, rfl⟩
    · exact ⟨rfl, rfl⟩
    · exact ⟨rfl, rfl⟩
    · exact ⟨rfl, rfl⟩
    · exact ⟨rfl, rfl⟩
    · exact ⟨rfl, rfl⟩
  · have c : k = 0 ∨ k = 1 := by omega
    rcases c with rfl | rfl
    · exact ⟨rfl, rfl⟩
    · exact ⟨rfl, rfl⟩
theorem ite_ap {c : Prop} [Decidable c] {A B : Prop} (h1 : A) (h2 : B) : (if c then A else B) := by
  by_cases h : c
  · rw [if_pos h]; exact h1
  · rw [if_neg h]; exact h2
section LAW
variable {N L : Nat} {xs : Nat → Int32} {K : Int32 → kS → Prop} {σ : kS} {Q : Int32 → kS → Prop}
theorem law_step {k : Nat} (hN : 5000 ≤ N) (hL : L ≤ 384) (hk : k + 6 ≤ L) (hI : Inv σ) (hK : ∀ υ, Inv υ → K (nI k + 6) υ) : b_L_law_18 N Q L xs K (nI k) σ := by
  have hG : ∀ r τ, Inv τ → (fun (r1 r2 : Int32) (υ : kS) => if r1 = r2 then (∀ y : Int32, y = nI k + 6 → K y υ) else Q 0 υ) r r τ := fun r τ h => by
    show if r = r then _ else _
    rw [if_pos rfl]
    intro y hy
    rw [hy]
    exact hK τ h
  have hGL : ∀ r τ, Inv τ → (fun (r1 r2 : Int64) (υ : kS) => if lg_cmp r1 r2 = 0 then (∀ y : Int32, y = nI k + 6 → K y υ) else Q 0 υ) r r τ := fun r τ h => by
    show if lg_cmp r r = 0 then _ else _
    rw [if_pos (lgc_eq.mpr rfl)]
    intro y hy
    rw [hy]
    exact hK τ h
  have vj : ∀ j, j < 6 → vp_in (nI (k + j)) L := fun j hj => vp_in_nI (by omega) (by omega)
  have v0 : vp_in (nI k) L := vp_in_nI (by omega) (by omega)
  have v1 : vp_in (nI k + 1) L := by rw [lit_1, nI_add]; exact vj 1 (by omega)
  have v2 : vp_in (nI k + 2) L := by rw [lit_2, nI_add]; exact vj 2 (by omega)
  have v3 : vp_in (nI k + 3) L := by rw [lit_3, nI_add]; exact vj 3 (by omega)
  have v4 : vp_in (nI k + 4) L := by rw [lit_4, nI_add]; exact vj 4 (by omega)
  have v5 : vp_in (nI k + 5) L := by rw [lit_5, nI_add]; exact vj 5 (by omega)
  unfold b_L_law_18
  rw [if_neg]
  · refine ⟨v0, ?_⟩
    intro w _
    simp only [v1, v2, v3, v4, v5, true_and]
    refine ite_ap (P_row hN hI _ _ _ hG) ?_
    refine ite_ap (P_set hI _ _ _ hG) ?_
    refine ite_ap (P_copy hN hI _ _ _ _ _ hG) ?_
    refine ite_ap (P_drop hI _ hG) ?_
    refine ite_ap (P_feed hI _ hG) ?_
    refine ite_ap (P_hall hN hI hG) ?_
    refine ite_ap (P_fault hI hG) ?_
    refine ite_ap (P_undo hN hI hG) ?_
    refine ite_ap (P_nights hN hI _ hG) ?_
    refine ite_ap (P_thunder hN hI _ hG) ?_
    refine ite_ap (P_tune hN hI hG) ?_
    refine ite_ap (P_learn hN hI _ hG) ?_
    refine ite_ap (P_piece hI _ _ hG) ?_
    refine ite_ap (P_pupil hI _ _ hG) ?_
    refine ite_ap (P_plays hN hI _ _ _ hG) ?_
    refine ite_ap (P_heard hI _ _ _ hG) ?_
    refine ite_ap (P_strike hI _ hG) ?_
    refine ite_ap (P_soon hN hI _ hG) ?_
    refine ite_ap (P_together hN hI _ _ hG) ?_
    refine ite_ap (P_itself hN hI hG) ?_
    refine ite_ap (P_nightsOf hN hI _ _ hG) ?_
    refine ite_ap (P_struck hN hI _ _ _ _ hG) ?_
    refine ite_ap (P_lessons hN hI _ _ hG) ?_
    refine ite_ap (P_programme hN hI _ _ hG) ?_
    refine ite_ap (P_chords hN hI _ hG) ?_
    refine ite_ap (P_who hN hI _ _ _ _ hG) ?_
    refine ite_ap (P_tunings hN hI _ _ hG) ?_
    refine ite_ap (P_other hN hI _ _ hG) ?_
    refine ite_ap (P_thunderOdds hN hI _ _ _ _ hGL) ?_
    refine ite_ap (P_drawn hN hI _ _ _ hG) ?_
    refine ite_ap (P_image hN hI _ hG) ?_
    refine ite_ap (P_restore hN hI _ hG) ?_
    refine ite_ap (P_kind hI _ hG) ?_
    refine ite_ap (P_as hI _ _ hG) ?_
    refine ite_ap (P_ask hI _ _ hG) ?_
    refine ite_ap (P_trace hI _ hG) ?_
    refine ite_ap (P_count hN hI _ hG) ?_
    refine ite_ap (P_status hI hG) ?_
    intro y hy
    rw [hy]
    exact hK σ hI
  · rw [fa_lt, show Int32.ofNat L = nI L from rfl, lit_6, pk_sub_toInt (by omega) (by omega), nI_toInt (by omega)]
    omega
theorem law_end {k : Nat} (hL : L ≤ 384) (hk : L < k + 6) (hk2 : k < 1000) : b_L_law_18 N Q L xs K (nI k) σ = Q 1 σ := by
  unfold b_L_law_18
  rw [if_pos]
  rw [fa_lt, show Int32.ofNat L = nI L from rfl, lit_6, pk_sub_toInt (by omega) (by omega), nI_toInt (by omega)]
  omega
theorem law_loop (hN : 5000 ≤ N) (hL : L ≤ 384) (hQ : ∀ υ, Q 1 υ) : ∀ (r n k : Nat) (σ : kS), L ≤ k + 6 * r → r < n → k < 900 → Inv σ → l_L_law_18 N Q L xs n (nI k) σ := by
  intro r
  induction r with
  | zero =>
    intro n k σ hk hn hk2 hI
    obtain ⟨n, rfl⟩ : ∃ j, n = j + 1 := ⟨n - 1, by omega⟩
    show b_L_law_18 N Q L xs _ (nI k) σ
    rw [law_end hL (by omega) (by omega)]
    exact hQ σ
  | succ r ih =>
    intro n k σ hk hn hk2 hI
    obtain ⟨n, rfl⟩ : ∃ j, n = j + 1 := ⟨n - 1, by omega⟩
    show b_L_law_18 N Q L xs _ (nI k) σ
    by_cases e : k + 6 ≤ L
    · refine law_step hN hL e hI (fun υ hυ => ?_)
      rw [lit_6, nI_add]
      exact ih n (k + 6) υ (by omega) (by omega) (by omega) hυ
    · rw [law_end hL (by omega) (by omega)]
      exact hQ σ
end LAW
theorem pure_all {L : Nat} {xs : Nat → Int32} (hL : L ≤ 384) : ∃ N, l_L_law_18 N (fun r _ => r = 1) L xs N 0 k0 := by
  refine ⟨5000, ?_⟩
  exact law_loop (Q := fun r _ => r = 1) (Nat.le_refl _) hL (fun _ => rfl) 64 5000 0 k0 (by omega) (by omega) (by omega) Inv_k0
