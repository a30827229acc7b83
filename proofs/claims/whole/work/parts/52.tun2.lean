/-! ===== tunings: to wait is never worse ===== -/
def srv (K d x n s : Nat) : Prop := ∀ j, 1 ≤ j → j ≤ n → (s + j * d) % K ≤ x
theorem srv_up {K d x n s : Nat} (h : srv K d x n ((s + d) % K)) (h1 : (s + d) % K ≤ x) : srv K d x (n + 1) s := by
  intro j j1 j2
  by_cases e : j = 1
  · rw [e, Nat.one_mul]
    exact h1
  · have := h (j - 1) (by omega) (by omega)
    rw [Nat.mod_add_mod] at this
    have e2 : s + d + (j - 1) * d = s + j * d := by
      obtain ⟨i, rfl⟩ : ∃ i, j = i + 1 := ⟨j - 1, by omega⟩
      rw [Nat.add_sub_cancel, Nat.add_mul, Nat.one_mul]
      omega
    rw [e2] at this
    exact this
theorem srv_dn {K d x n s : Nat} (h : srv K d x (n + 1) s) : srv K d x n ((s + d) % K) := by
  intro j j1 j2
  have := h (j + 1) (by omega) (by omega)
  rw [Nat.mod_add_mod]
  have e2 : s + d + j * d = s + (j + 1) * d := by
    rw [Nat.add_mul, Nat.one_mul]
    omega
  rw [e2]
  exact this
theorem srv_le {K d x n s : Nat} (h : srv K d x (n + 1) s) : srv K d x n s := fun j j1 j2 => h j j1 (by omega)
theorem srv_1 {K d x s : Nat} : srv K d x 1 s ↔ (s + d) % K ≤ x := by
  constructor
  · intro h
    have := h 1 (by omega) (by omega)
    rw [Nat.one_mul] at this
    exact this
  · intro h j j1 j2
    rw [show j = 1 by omega, Nat.one_mul]
    exact h
section TV
variable {K d x : Nat} {T : Nat → Nat}
theorem stp_all {P : Nat → Nat → Prop} {U : Nat → Nat} {k : Nat} (h1 : (k + d) % K ≤ x → P ((k + d) % K) (T k)) (h2 : P 0 (T k + 1)) (hU : ∀ s, P s (U s)) : ∀ s, P s (stp K d x T U k s) := by
  have hq : ∀ s, P s (stq K d x T U k s) := by
    intro s
    unfold stq
    by_cases e : s = (k + d) % K
    · rw [e, upH_eq]
      split
      · exact hU _
      · split
        · exact hU _
        · exact h1 (by omega)
    · rw [upH_ne e]
      exact hU s
  intro s
  unfold stp
  by_cases e : s = 0
  · rw [e, upH_eq]
    split
    · exact hq 0
    · exact h2
  · rw [upH_ne e]
    exact hq s
theorem trn_all {P : Nat → Nat → Prop} : ∀ r k U, (∀ j, k ≤ j → j < k + r → ((j + d) % K ≤ x → P ((j + d) % K) (T j)) ∧ P 0 (T j + 1)) → (∀ s, P s (U s)) → ∀ s, P s (trn K d x T r k U s) := by
  intro r
  induction r with
  | zero => intro k U _ hU; exact hU
  | succ r ih =>
    intro k U h hU
    exact ih (k + 1) _ (fun j h1 h2 => h j (by omega) (by omega)) (stp_all (h k (by omega) (by omega)).1 (h k (by omega) (by omega)).2 hU)
theorem stq_le {U : Nat → Nat} {k s : Nat} : stq K d x T U k s ≤ U s := by
  unfold stq
  by_cases e : s = (k + d) % K
  · rw [e, upH_eq]
    split
    · exact Nat.le_refl _
    · split
      · exact Nat.le_refl _
      · omega
  · rw [upH_ne e]
    exact Nat.le_refl _
theorem stp_lq {U : Nat → Nat} {k s : Nat} : stp K d x T U k s ≤ stq K d x T U k s := by
  unfold stp
  by_cases e : s = 0
  · rw [e, upH_eq]
    split <;> omega
  · rw [upH_ne e]
    exact Nat.le_refl _
theorem trn_le : ∀ r k U s, trn K d x T r k U s ≤ U s := by
  intro r
  induction r with
  | zero => intro k U s; exact Nat.le_refl _
  | succ r ih =>
    intro k U s
    exact Nat.le_trans (ih (k + 1) _ s) (Nat.le_trans stp_lq stq_le)
theorem stp_q {U : Nat → Nat} {k : Nat} (h : (k + d) % K ≤ x) : stp K d x T U k ((k + d) % K) ≤ T k := by
  refine Nat.le_trans stp_lq ?_
  unfold stq
  rw [upH_eq, if_neg (by omega)]
  split <;> omega
theorem stp_0 {U : Nat → Nat} {k : Nat} : stp K d x T U k 0 ≤ T k + 1 := by
  unfold stp
  rw [upH_eq]
  split <;> omega
theorem trn_q {j : Nat} (h : (j + d) % K ≤ x) : ∀ r k U, k ≤ j → j < k + r → trn K d x T r k U ((j + d) % K) ≤ T j := by
  intro r
  induction r with
  | zero => intro k U h1 h2; omega
  | succ r ih =>
    intro k U h1 h2
    by_cases e : j = k
    · subst e
      exact Nat.le_trans (trn_le r _ _ _) (stp_q h)
    · exact ih (k + 1) _ (by omega) (by omega)
theorem trn_0 {j : Nat} : ∀ r k U, k ≤ j → j < k + r → trn K d x T r k U 0 ≤ T j + 1 := by
  intro r
  induction r with
  | zero => intro k U h1 h2; omega
  | succ r ih =>
    intro k U h1 h2
    by_cases e : j = k
    · subst e
      exact Nat.le_trans (trn_le r _ _ _) stp_0
    · exact ih (k + 1) _ (by omega) (by omega)
def TIv (K d x : Nat) (T : Nat → Nat) (g c : Nat) : Prop := g < K ∧ T g = c ∧ ∀ s, T s ≤ 999 ∧ c ≤ T s ∧ (T s = c → ∀ n, srv K d x n s → srv K d x n g) ∧ (1 ≤ T s → T s ≤ 998 → ∀ n, srv K d x n s → srv K d x n 0)
theorem TIv_step {g c : Nat} (hK : 0 < K) (h : TIv K d x T g c) (hc : c + 1 ≤ 900) : TIv K d x (trn K d x T K 0 (fun _ => 999)) (if (g + d) % K ≤ x then (g + d) % K else 0) (if (g + d) % K ≤ x then c else c + 1) := by
  obtain ⟨hg, hT, hs⟩ := h
  by_cases a : (g + d) % K ≤ x
  · rw [if_pos a, if_pos a]
    have al : ∀ s, c ≤ trn K d x T K 0 (fun _ => 999) s ∧ (trn K d x T K 0 (fun _ => 999) s = c → ∀ n, srv K d x n s → srv K d x n ((g + d) % K)) ∧ (1 ≤ trn K d x T K 0 (fun _ => 999) s → trn K d x T K 0 (fun _ => 999) s ≤ 998 → ∀ n, srv K d x n s → srv K d x n 0) := by
      refine trn_all (P := fun s v => c ≤ v ∧ (v = c → ∀ n, srv K d x n s → srv K d x n ((g + d) % K)) ∧ (1 ≤ v → v ≤ 998 → ∀ n, srv K d x n s → srv K d x n 0)) K 0 _ (fun j _ hj => ⟨fun q => ⟨(hs j).2.1, fun e n w => ?_, fun e1 e2 n w => ?_⟩, ⟨?_, fun e => ?_, fun _ _ n w => w⟩⟩) (fun s => ⟨by omega, fun e => by omega, fun _ e => by omega⟩)
      · exact srv_dn ((hs j).2.2.1 e (n + 1) (srv_up w q))
      · exact srv_le ((hs j).2.2.2 e1 e2 (n + 1) (srv_up w q))
      · have := (hs j).2.1
        omega
      · have := (hs j).2.1
        omega
    refine ⟨Nat.mod_lt _ hK, Nat.le_antisymm ?_ (al _).1, fun s => ⟨trn_le K 0 _ s, al s⟩⟩
    rw [← hT]
    exact trn_q a K 0 _ (by omega) (by omega)
  · rw [if_neg a, if_neg a]
    have al : ∀ s, c + 1 ≤ trn K d x T K 0 (fun _ => 999) s ∧ (trn K d x T K 0 (fun _ => 999) s = c + 1 → ∀ n, srv K d x n s → srv K d x n 0) ∧ (1 ≤ trn K d x T K 0 (fun _ => 999) s → trn K d x T K 0 (fun _ => 999) s ≤ 998 → ∀ n, srv K d x n s → srv K d x n 0) := by
      have big : ∀ j, (j + d) % K ≤ x → c + 1 ≤ T j := fun j q => by
        have h1 := (hs j).2.1
        by_cases e : T j = c
        · exact absurd (srv_1.mp ((hs j).2.2.1 e 1 (srv_1.mpr q))) a
        · omega
      refine trn_all (P := fun s v => c + 1 ≤ v ∧ (v = c + 1 → ∀ n, srv K d x n s → srv K d x n 0) ∧ (1 ≤ v → v ≤ 998 → ∀ n, srv K d x n s → srv K d x n 0)) K 0 _ (fun j _ hj => ⟨fun q => ⟨big j q, fun e n w => ?_, fun e1 e2 n w => ?_⟩, ⟨?_, fun _ n w => w, fun _ _ n w => w⟩⟩) (fun s => ⟨by omega, fun e => by omega, fun _ e => by omega⟩)
      · exact srv_le ((hs j).2.2.2 (by omega) (by omega) (n + 1) (srv_up w q))
      · exact srv_le ((hs j).2.2.2 e1 e2 (n + 1) (srv_up w q))
      · have := (hs j).2.1
        omega
    refine ⟨hK, Nat.le_antisymm ?_ (al _).1, fun s => ⟨trn_le K 0 _ s, al s⟩⟩
    rw [← hT]
    exact trn_0 K 0 _ (by omega) (by omega)
def mnT (T : Nat → Nat) : Nat → Nat → Nat → Nat
  | 0, _, v => v
  | r + 1, k, v => mnT T r (k + 1) (if v ≤ T k then v else T k)
theorem mnT_le : ∀ r k v, mnT T r k v ≤ v := by
  intro r
  induction r with
  | zero => intro k v; exact Nat.le_refl _
  | succ r ih =>
    intro k v
    refine Nat.le_trans (ih _ _) ?_
    split <;> omega
theorem mnT_at {j : Nat} : ∀ r k v, k ≤ j → j < k + r → mnT T r k v ≤ T j := by
  intro r
  induction r with
  | zero => intro k v h1 h2; omega
  | succ r ih =>
    intro k v h1 h2
    by_cases e : j = k
    · subst e
      refine Nat.le_trans (mnT_le r _ _) ?_
      split <;> omega
    · exact ih _ _ (by omega) (by omega)
theorem mnT_ge {c : Nat} (h : ∀ s, c ≤ T s) : ∀ r k v, c ≤ v → c ≤ mnT T r k v := by
  intro r
  induction r with
  | zero => intro k v q; exact q
  | succ r ih =>
    intro k v q
    refine ih _ _ ?_
    have := h k
    split <;> omega
end TV
