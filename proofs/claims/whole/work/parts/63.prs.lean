/-! ===== hall: what a tape tells ===== -/
def fgN (t : Nat → Nat) (n i : Nat) : Bool := decide (i < n) && (decide (48 ≤ t i) && decide (t i ≤ 57))
def figN (t : Nat → Nat) (n i : Nat) : Nat := if fgN t n i = true then (if fgN t n (i + 1) = true then (if fgN t n (i + 2) = true then 3 else 2) else 1) else 0
def vlN (t : Nat → Nat) (n i : Nat) : Nat := if figN t n i = 1 then t i - 48 else 10 * (t i - 48) + (t (i + 1) - 48)
abbrev PRs := Nat × Nat × (Nat → Nat)
def zFn : Nat → Nat := fun _ => 0
def pBy (t : Nat → Nat) (n c i : Nat) (f : Nat → PRs) : PRs := if i < n ∧ t i = c then f (i + 1) else (1, i, zFn)
def pNu (t : Nat → Nat) (n lo hi i : Nat) (f : Nat → Nat → PRs) : PRs := if figN t n i = 1 ∨ figN t n i = 2 then (if lo ≤ vlN t n i ∧ vlN t n i ≤ hi then f (vlN t n i) (i + figN t n i) else (2, i, zFn)) else (1, i, zFn)
def kdN (c : Nat) : Nat := if c = 99 then 4 else if c = 109 then 5 else if c = 112 then 1 else if c = 115 then 3 else if c = 118 then 2 else 0
def hPp (H : Nat → Nat) (q k v w : Nat) : Nat → Nat := fun j => if j = 42 + q then k else if j = 47 + q then v else if j = 52 + q then w else if j = 4 then q + 1 else H j
def ppR (t : Nat → Nat) (n : Nat) : Nat → Nat → Nat → (Nat → Nat) → PRs
  | 0, _, i, H => if i < n then (if kdN (t i) = 0 then (1, i, zFn) else (3, i, zFn)) else (0, i, H)
  | r + 1, q, i, H => if i < n then (if kdN (t i) = 0 then (1, i, zFn) else pNu t n 0 (H 0 - 1) (i + 1) (fun v i1 => pBy t n 44 i1 (fun i2 => pNu t n 1 12 i2 (fun w i3 => pBy t n 59 i3 (fun i4 => ppR t n r (q + 1) i4 (hPp H q (kdN (t i)) v w)))))) else (0, i, H)
def slR (t : Nat → Nat) (n K i0 : Nat) : Nat → Nat → Nat
  | 0, l => l
  | r + 1, l => if i0 + l < n ∧ 97 ≤ t (i0 + l) ∧ t (i0 + l) < 97 + K then slR t n K i0 r (l + 1) else l
def hPc (t : Nat → Nat) (H : Nat → Nat) (p l i0 : Nat) : Nat → Nat := fun j => if 10 + 8 * p ≤ j ∧ j < 10 + 8 * p + l then t (i0 + (j - (10 + 8 * p))) - 97 else if j = 6 + p then l else if j = 3 then p + 1 else H j
def pcR (t : Nat → Nat) (n : Nat) : Nat → Nat → Nat → (Nat → Nat) → PRs
  | 0, _, i, H => if i < n ∧ t i = 116 then (3, i, zFn) else ppR t n 5 0 i H
  | r + 1, p, i, H => if i < n ∧ t i = 116 then (if slR t n (H 0) (i + 1) 8 0 = 0 then (1, i + 1, zFn) else pBy t n 59 (i + 1 + slR t n (H 0) (i + 1) 8 0) (fun i2 => pcR t n r (p + 1) i2 (hPc t H p (slR t n (H 0) (i + 1) 8 0) (i + 1)))) else ppR t n 5 0 i H
def hLw (K d s : Nat) : Nat → Nat := fun j => if j = 0 then K else if j = 1 then d else if j = 2 then s else 0
def prs (t : Nat → Nat) (n : Nat) : PRs := pBy t n 107 0 (fun i1 => pNu t n 2 12 i1 (fun K i2 => pBy t n 44 i2 (fun i3 => pNu t n 0 (K - 1) i3 (fun d i4 => pBy t n 44 i4 (fun i5 => pNu t n 0 (K - 1) i5 (fun s i6 => pBy t n 59 i6 (fun i7 => pcR t n 4 0 i7 (hLw K d s))))))))
theorem fg_iff {t : Nat → Nat} {n i : Nat} : fgN t n i = true ↔ i < n ∧ 48 ≤ t i ∧ t i ≤ 57 := by
  unfold fgN
  simp
theorem fig_le {t : Nat → Nat} {n i : Nat} (hi : i ≤ n) : i + figN t n i ≤ n ∨ figN t n i = 3 := by
  unfold figN
  by_cases a : fgN t n i = true
  · rw [if_pos a]
    rw [fg_iff] at a
    by_cases b : fgN t n (i + 1) = true
    · rw [if_pos b]
      rw [fg_iff] at b
      by_cases c : fgN t n (i + 2) = true
      · rw [if_pos c]; right; rfl
      · rw [if_neg c]; left; omega
    · rw [if_neg b]; left; omega
  · rw [if_neg a]; left; omega
theorem sl_ok {t : Nat → Nat} {n K i0 : Nat} : ∀ (r l : Nat), (∀ k, k < l → i0 + k < n ∧ 97 ≤ t (i0 + k) ∧ t (i0 + k) < 97 + K) → l ≤ slR t n K i0 r l ∧ slR t n K i0 r l ≤ l + r ∧ ∀ k, k < slR t n K i0 r l → i0 + k < n ∧ 97 ≤ t (i0 + k) ∧ t (i0 + k) < 97 + K := by
  intro r
  induction r with
  | zero => intro l h; exact ⟨Nat.le_refl _, Nat.le_refl _, h⟩
  | succ r ih =>
    intro l h
    show l ≤ (if i0 + l < n ∧ 97 ≤ t (i0 + l) ∧ t (i0 + l) < 97 + K then slR t n K i0 r (l + 1) else l) ∧ _ ≤ _ ∧ ∀ k, k < (if i0 + l < n ∧ 97 ≤ t (i0 + l) ∧ t (i0 + l) < 97 + K then slR t n K i0 r (l + 1) else l) → _
    by_cases e : i0 + l < n ∧ 97 ≤ t (i0 + l) ∧ t (i0 + l) < 97 + K
    · rw [show slR t n K i0 (r + 1) l = slR t n K i0 r (l + 1) from if_pos e, if_pos e]
      have := ih (l + 1) (fun k hk => by
        by_cases f : k = l
        · subst f; exact e
        · exact h k (by omega))
      exact ⟨by omega, by omega, this.2.2⟩
    · rw [show slR t n K i0 (r + 1) l = l from if_neg e, if_neg e]
      exact ⟨Nat.le_refl _, by omega, h⟩
theorem HV_lw {K d s : Nat} (h : 2 ≤ K ∧ K ≤ 12) (hd : d < K) (hs : s < K) : HV (hLw K d s) := by
  refine ⟨h, hd, hs, ?_, ?_, ?_, fun p hp => ?_, fun p k hp => ?_, fun q hq => ?_⟩
  · show 0 ≤ 4; omega
  · show 0 ≤ 5; omega
  · show 0 ≤ 999; omega
  · exact absurd (show p < 0 from hp) (by omega)
  · exact absurd (show p < 0 from hp) (by omega)
  · exact absurd (show q < 0 from hq) (by omega)
theorem hPc_o {t H : Nat → Nat} {p l i0 j : Nat} (h1 : ¬ (10 + 8 * p ≤ j ∧ j < 10 + 8 * p + l)) (h2 : j ≠ 6 + p) (h3 : j ≠ 3) : hPc t H p l i0 j = H j := by
  unfold hPc
  rw [if_neg h1, if_neg h2, if_neg h3]
theorem hPc_n {t H : Nat → Nat} {p l i0 : Nat} : hPc t H p l i0 (6 + p) = l ∨ 4 ≤ p := by
  by_cases e : 4 ≤ p
  · right; exact e
  · left
    unfold hPc
    rw [if_neg (by omega), if_pos rfl]
theorem hPc_3 {t H : Nat → Nat} {p l i0 : Nat} : hPc t H p l i0 3 = p + 1 := by
  unfold hPc
  rw [if_neg (by omega), if_neg (by omega), if_pos rfl]
theorem hPc_s {t H : Nat → Nat} {p l i0 k : Nat} (hk : k < l) : hPc t H p l i0 (10 + 8 * p + k) = t (i0 + k) - 97 := by
  unfold hPc
  rw [if_pos (by omega), show 10 + 8 * p + k - (10 + 8 * p) = k by omega]
theorem HV_pc {t H : Nat → Nat} {p l i0 : Nat} (hV : HV H) (h3 : H 3 = p) (hp : p < 4) (hq : H 4 = 0) (hl : 1 ≤ l ∧ l ≤ 8) (hs : ∀ k, k < l → 97 ≤ t (i0 + k) ∧ t (i0 + k) < 97 + H 0) : HV (hPc t H p l i0) := by
  obtain ⟨a0, a1, a2, a3, a4, a5, a6, a7, a8⟩ := hV
  have e0 : hPc t H p l i0 0 = H 0 := hPc_o (by omega) (by omega) (by omega)
  have e1 : hPc t H p l i0 1 = H 1 := hPc_o (by omega) (by omega) (by omega)
  have e2 : hPc t H p l i0 2 = H 2 := hPc_o (by omega) (by omega) (by omega)
  have e4 : hPc t H p l i0 4 = H 4 := hPc_o (by omega) (by omega) (by omega)
  have e5 : hPc t H p l i0 5 = H 5 := hPc_o (by omega) (by omega) (by omega)
  have e3 : hPc t H p l i0 3 = p + 1 := hPc_3
  have en : hPc t H p l i0 (6 + p) = l := hPc_n.resolve_right (by omega)
  have eo : ∀ p', p' < p → hPc t H p l i0 (6 + p') = H (6 + p') := fun p' h => hPc_o (by omega) (by omega) (by omega)
  refine ⟨by rw [e0]; exact a0, by rw [e0, e1]; exact a1, by rw [e0, e2]; exact a2, by rw [e3]; omega, by rw [e4]; omega, by rw [e5]; exact a5, fun p' hp' => ?_, fun p' k hp' hk => ?_, fun q hq' => ?_⟩
  · rw [e3] at hp'
    by_cases e : p' = p
    · subst e
      rw [en]; exact hl
    · rw [eo p' (by omega)]
      exact a6 p' (by omega)
  · rw [e3] at hp'
    rw [e0]
    by_cases e : p' = p
    · subst e
      rw [en] at hk
      rw [hPc_s hk]
      have := hs k hk
      omega
    · rw [eo p' (by omega)] at hk
      have := (a6 p' (by omega)).2
      rw [hPc_o (by omega) (by omega) (by omega)]
      exact a7 p' k (by omega) hk
  · rw [e4] at hq'
    omega
theorem HV_pp {H : Nat → Nat} {q k v w : Nat} (hV : HV H) (h4 : H 4 = q) (hq : q < 5) (hk : 1 ≤ k ∧ k ≤ 5) (hv : v < H 0) (hw : 1 ≤ w ∧ w ≤ 12) : HV (hPp H q k v w) := by
  obtain ⟨a0, a1, a2, a3, a4, a5, a6, a7, a8⟩ := hV
  have eo : ∀ j, j ≠ 42 + q → j ≠ 47 + q → j ≠ 52 + q → j ≠ 4 → hPp H q k v w j = H j := fun j h1 h2 h3 h4 => by
    unfold hPp
    rw [if_neg h1, if_neg h2, if_neg h3, if_neg h4]
  have e4 : hPp H q k v w 4 = q + 1 := by
    unfold hPp
    rw [if_neg (by omega), if_neg (by omega), if_neg (by omega), if_pos rfl]
  refine ⟨?_, ?_, ?_, ?_, ?_, ?_, fun p hp => ?_, fun p j hp hj => ?_, fun q' hq' => ?_⟩
  · rw [eo 0 (by omega) (by omega) (by omega) (by omega)]; exact a0
  · rw [eo 0 (by omega) (by omega) (by omega) (by omega), eo 1 (by omega) (by omega) (by omega) (by omega)]; exact a1
  · rw [eo 0 (by omega) (by omega) (by omega) (by omega), eo 2 (by omega) (by omega) (by omega) (by omega)]; exact a2
  · rw [eo 3 (by omega) (by omega) (by omega) (by omega)]; exact a3
  · rw [e4]; omega
  · rw [eo 5 (by omega) (by omega) (by omega) (by omega)]; exact a5
  · rw [eo 3 (by omega) (by omega) (by omega) (by omega)] at hp
    rw [eo _ (by omega) (by omega) (by omega) (by omega)]
    exact a6 p hp
  · rw [eo 3 (by omega) (by omega) (by omega) (by omega)] at hp
    rw [eo _ (by omega) (by omega) (by omega) (by omega)] at hj
    have := (a6 p hp).2
    rw [eo _ (by omega) (by omega) (by omega) (by omega), eo 0 (by omega) (by omega) (by omega) (by omega)]
    exact a7 p j hp hj
  · rw [e4] at hq'
    rw [eo 0 (by omega) (by omega) (by omega) (by omega)]
    by_cases e : q' = q
    · subst e
      unfold hPp
      rw [if_pos rfl, if_neg (by omega), if_pos rfl, if_neg (by omega), if_neg (by omega), if_pos rfl]
      exact ⟨hk, hv, hw⟩
    · rw [eo _ (by omega) (by omega) (by omega) (by omega), eo _ (by omega) (by omega) (by omega) (by omega), eo _ (by omega) (by omega) (by omega) (by omega)]
      exact a8 q' (by omega)
theorem kdN_le (c : Nat) : kdN c ≤ 5 := by
  unfold kdN
  split
  · omega
  split
  · omega
  split
  · omega
  split
  · omega
  split
  · omega
  · omega
