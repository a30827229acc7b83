/-! ===== loops that write a stretch of a row ===== -/
def blk (σ : kS) (a o n : Nat) (f : Nat → Int32) : kS := fun c k => if c = a ∧ o ≤ k ∧ k < o + n then f (k - o) else σ c k
theorem blk_0 (σ : kS) (a o : Nat) (f : Nat → Int32) : blk σ a o 0 f = σ := by
  funext c k
  unfold blk
  rw [if_neg (by omega)]
theorem blk_step {σ : kS} {a o n j : Nat} {f : Nat → Int32} {v : Int32} (hj : j = o + n) (hv : v = f n) : st2 (blk σ a o n f) a j v = blk σ a o (n + 1) f := by
  subst hj; subst hv
  funext c k
  rw [st2_app]
  unfold blk
  by_cases h : c = a ∧ k = o + n
  · obtain ⟨rfl, rfl⟩ := h
    rw [if_pos ⟨rfl, rfl⟩, if_pos (by omega), Nat.add_sub_cancel_left]
  · rw [if_neg h]
    by_cases g : c = a ∧ o ≤ k ∧ k < o + n
    · rw [if_pos g, if_pos (by omega)]
    · rw [if_neg g, if_neg (by omega)]
theorem blk_in {σ : kS} {a o n k : Nat} {f : Nat → Int32} (h1 : o ≤ k) (h2 : k < o + n) : blk σ a o n f a k = f (k - o) := by
  unfold blk
  rw [if_pos ⟨rfl, h1, h2⟩]
theorem blk_out {σ : kS} {a o n c k : Nat} {f : Nat → Int32} (h : ¬ (c = a ∧ o ≤ k ∧ k < o + n)) : blk σ a o n f c k = σ c k := by
  unfold blk
  rw [if_neg h]
section BL
variable {N : Nat} {σ : kS} {Q : Int32 → kS → Prop} {Qv : kS → Prop} {E : kS → Prop}
theorem lit_1311 : (1311 : Int32) = nI 1311 := rfl
theorem l_fill {a : Nat} {v : Int32}  : ∀ (r n k : Nat), k + r = 40 → r < n → l_J7_fill_53178_5 N Qv a v 40 n (nI k) (blk σ a 0 k (fun _ => v)) = Qv (blk σ a 0 (40) (fun _ => v)) := by
  intro r
  induction r with
  | zero =>
    intro n k hk hn
    obtain ⟨n, rfl⟩ : ∃ j, n = j + 1 := ⟨n - 1, by omega⟩
    have e : k = 40 := by omega
    rw [e]
    show b_J7_fill_53178_5 N Qv a v 40 _ (nI (40)) (blk σ a 0 (40) (fun _ => v)) = _
    unfold b_J7_fill_53178_5
    simp (disch := omega) only [lit_40, z_le, Nat.le_refl, if_true]
  | succ r ih =>
    intro n k hk hn
    obtain ⟨n, rfl⟩ : ∃ j, n = j + 1 := ⟨n - 1, by omega⟩
    have := ih n (k + 1) (by omega) (by omega)
    rw [← this]
    show b_J7_fill_53178_5 N Qv a v 40 _ (nI k) (blk σ a 0 k (fun _ => v)) = _
    unfold b_J7_fill_53178_5
    have z : ¬ 40 ≤ k := by omega
    simp (disch := omega) only [lit_40, z_le, z, if_false, z_vp, z_clI, true_and, forall_eq, nI_1]
    rw [blk_step (by omega) rfl]
theorem l_row55 {r0 : Nat} {x3 : Int32} (hr : r0 < 8) : ∀ (r n k : Nat), k + r = 40 → r < n → l_X7_row_55 N Q (nI r0) x3 E n (nI k) (blk σ 58 (40 * r0) k (fun _ => 0)) = E (blk σ 58 (40 * r0) (40) (fun _ => 0)) := by
  intro r
  induction r with
  | zero =>
    intro n k hk hn
    obtain ⟨n, rfl⟩ : ∃ j, n = j + 1 := ⟨n - 1, by omega⟩
    have e : k = 40 := by omega
    rw [e]
    show b_X7_row_55 N Q (nI r0) x3 E _ (nI (40)) (blk σ 58 (40 * r0) (40) (fun _ => 0)) = _
    unfold b_X7_row_55
    simp (disch := omega) only [lit_40, z_le, Nat.le_refl, if_true]
  | succ r ih =>
    intro n k hk hn
    obtain ⟨n, rfl⟩ : ∃ j, n = j + 1 := ⟨n - 1, by omega⟩
    have := ih n (k + 1) (by omega) (by omega)
    rw [← this]
    show b_X7_row_55 N Q (nI r0) x3 E _ (nI k) (blk σ 58 (40 * r0) k (fun _ => 0)) = _
    unfold b_X7_row_55
    have z : ¬ 40 ≤ k := by omega
    simp (disch := omega) only [lit_40, pk_mul, nI_add, z_le, z, if_false, z_vp, z_clI, true_and, forall_eq, nI_1]
    rw [blk_step rfl rfl]
theorem l_copy117 {a i n0 : Nat} {x3 x4 : Int32} (ha : a < 8) (hi : i + n0 ≤ 40) : ∀ (r n k : Nat), k + r = n0 → r < n → l_X7_copy_117 N Q (nI a) (nI i) x3 x4 (nI n0) E n (nI k) (blk σ 60 0 k (fun j => σ 58 (40 * a + i + j))) = E (blk σ 60 0 (n0) (fun j => σ 58 (40 * a + i + j))) := by
  intro r
  induction r with
  | zero =>
    intro n k hk hn
    obtain ⟨n, rfl⟩ : ∃ j, n = j + 1 := ⟨n - 1, by omega⟩
    have e : k = n0 := by omega
    rw [e]
    show b_X7_copy_117 N Q (nI a) (nI i) x3 x4 (nI n0) E _ (nI (n0)) (blk σ 60 0 (n0) (fun j => σ 58 (40 * a + i + j))) = _
    unfold b_X7_copy_117
    simp (disch := omega) only [lit_40, z_le, Nat.le_refl, if_true]
  | succ r ih =>
    intro n k hk hn
    obtain ⟨n, rfl⟩ : ∃ j, n = j + 1 := ⟨n - 1, by omega⟩
    have := ih n (k + 1) (by omega) (by omega)
    rw [← this]
    show b_X7_copy_117 N Q (nI a) (nI i) x3 x4 (nI n0) E _ (nI k) (blk σ 60 0 k (fun j => σ 58 (40 * a + i + j))) = _
    unfold b_X7_copy_117
    have z : ¬ n0 ≤ k := by omega
    simp (disch := omega) only [lit_40, pk_mul, nI_add, z_le, z, if_false, z_vp, z_clI, true_and, forall_eq, nI_1]
    rw [blk_out (by omega), blk_step (by omega) rfl]
theorem l_copy154 {b i n0 : Nat} (hb : b < 8) (hi : i + n0 ≤ 40) : ∀ (r n k : Nat), k + r = n0 → r < n → l_X7_copy_154 N Q (nI b) (nI i) (nI n0) E n (nI k) (blk σ 58 (40 * b + i) k (fun j => σ 60 j)) = E (blk σ 58 (40 * b + i) (n0) (fun j => σ 60 j)) := by
  intro r
  induction r with
  | zero =>
    intro n k hk hn
    obtain ⟨n, rfl⟩ : ∃ j, n = j + 1 := ⟨n - 1, by omega⟩
    have e : k = n0 := by omega
    rw [e]
    show b_X7_copy_154 N Q (nI b) (nI i) (nI n0) E _ (nI (n0)) (blk σ 58 (40 * b + i) (n0) (fun j => σ 60 j)) = _
    unfold b_X7_copy_154
    simp (disch := omega) only [lit_40, z_le, Nat.le_refl, if_true]
  | succ r ih =>
    intro n k hk hn
    obtain ⟨n, rfl⟩ : ∃ j, n = j + 1 := ⟨n - 1, by omega⟩
    have := ih n (k + 1) (by omega) (by omega)
    rw [← this]
    show b_X7_copy_154 N Q (nI b) (nI i) (nI n0) E _ (nI k) (blk σ 58 (40 * b + i) k (fun j => σ 60 j)) = _
    unfold b_X7_copy_154
    have z : ¬ n0 ≤ k := by omega
    simp (disch := omega) only [lit_40, pk_mul, nI_add, z_le, z, if_false, z_vp, z_clI, true_and, forall_eq, nI_1]
    rw [blk_out (by omega), blk_step rfl rfl]
theorem l_note11   : ∀ (r n k : Nat), k + r = 1311 → r < n → l_X7_note_11 N Qv E n (nI k) (blk σ 63 0 k (fun j => σ 63 (j + 57))) = E (blk σ 63 0 (1311) (fun j => σ 63 (j + 57))) := by
  intro r
  induction r with
  | zero =>
    intro n k hk hn
    obtain ⟨n, rfl⟩ : ∃ j, n = j + 1 := ⟨n - 1, by omega⟩
    have e : k = 1311 := by omega
    rw [e]
    show b_X7_note_11 N Qv E _ (nI (1311)) (blk σ 63 0 (1311) (fun j => σ 63 (j + 57))) = _
    unfold b_X7_note_11
    simp (disch := omega) only [lit_1311, z_le, Nat.le_refl, if_true]
  | succ r ih =>
    intro n k hk hn
    obtain ⟨n, rfl⟩ : ∃ j, n = j + 1 := ⟨n - 1, by omega⟩
    have := ih n (k + 1) (by omega) (by omega)
    rw [← this]
    show b_X7_note_11 N Qv E _ (nI k) (blk σ 63 0 k (fun j => σ 63 (j + 57))) = _
    unfold b_X7_note_11
    have z : ¬ 1311 ≤ k := by omega
    simp (disch := omega) only [lit_1311, lit_57, nI_add, z_le, z, if_false, z_vp, z_clI, true_and, forall_eq, nI_1]
    rw [blk_out (by omega), blk_step (by omega) rfl]
theorem l_note51 {m : Nat} (hm : m < 24) (h17 : σ 55 17 = nI m) : ∀ (r n k : Nat), k + r = 57 → r < n → l_X7_note_51 N Qv E n (nI k) (blk σ 63 (57 * m) k (fun j => σ 59 j)) = E (blk σ 63 (57 * m) (57) (fun j => σ 59 j)) := by
  intro r
  induction r with
  | zero =>
    intro n k hk hn
    obtain ⟨n, rfl⟩ : ∃ j, n = j + 1 := ⟨n - 1, by omega⟩
    have e : k = 57 := by omega
    rw [e]
    show b_X7_note_51 N Qv E _ (nI (57)) (blk σ 63 (57 * m) (57) (fun j => σ 59 j)) = _
    unfold b_X7_note_51
    simp (disch := omega) only [lit_57, z_le, Nat.le_refl, if_true]
  | succ r ih =>
    intro n k hk hn
    obtain ⟨n, rfl⟩ : ∃ j, n = j + 1 := ⟨n - 1, by omega⟩
    have := ih n (k + 1) (by omega) (by omega)
    rw [← this]
    show b_X7_note_51 N Qv E _ (nI k) (blk σ 63 (57 * m) k (fun j => σ 59 j)) = _
    unfold b_X7_note_51
    have z : ¬ 57 ≤ k := by omega
    have e17 : blk σ 63 (57 * m) k (fun j => σ 59 j) 55 17 = nI m := by rw [blk_out (by omega), h17]
    simp (disch := omega) only [lit_57, e17, pk_mul, nI_add, z_le, z, if_false, z_vp, z_clI, true_and, forall_eq, nI_1]
    rw [blk_out (by omega), blk_step rfl rfl]
theorem l_undo22 {m : Nat} (hm : m < 24) (h17 : σ 55 17 = nI m) : ∀ (r n k : Nat), k + r = 57 → r < n → l_X7_undo_22 N Q n (nI k) (blk σ 59 0 k (fun j => σ 63 (57 * m + j))) = Q (nI m) (blk σ 59 0 (57) (fun j => σ 63 (57 * m + j))) := by
  intro r
  induction r with
  | zero =>
    intro n k hk hn
    obtain ⟨n, rfl⟩ : ∃ j, n = j + 1 := ⟨n - 1, by omega⟩
    have e : k = 57 := by omega
    rw [e]
    show b_X7_undo_22 N Q _ (nI (57)) (blk σ 59 0 (57) (fun j => σ 63 (57 * m + j))) = _
    unfold b_X7_undo_22
    simp (disch := omega) only [lit_57, z_le, Nat.le_refl, if_true, show blk σ 59 0 57 (fun j => σ 63 (57 * m + j)) 55 17 = nI m by rw [blk_out (by omega), h17]]
  | succ r ih =>
    intro n k hk hn
    obtain ⟨n, rfl⟩ : ∃ j, n = j + 1 := ⟨n - 1, by omega⟩
    have := ih n (k + 1) (by omega) (by omega)
    rw [← this]
    show b_X7_undo_22 N Q _ (nI k) (blk σ 59 0 k (fun j => σ 63 (57 * m + j))) = _
    unfold b_X7_undo_22
    have z : ¬ 57 ≤ k := by omega
    have e17 : blk σ 59 0 k (fun j => σ 63 (57 * m + j)) 55 17 = nI m := by rw [blk_out (by omega), h17]
    simp (disch := omega) only [lit_57, e17, pk_mul, nI_add, z_le, z, if_false, z_vp, z_clI, true_and, forall_eq, nI_1]
    rw [blk_out (by omega), blk_step (by omega) rfl]
theorem l_image25 {i0 : Nat} (hi : i0 < 2) : ∀ (r n k : Nat), k + r = 57 → r < n → l_X7_image_25 N Q (nI i0) E n (nI k) (blk σ 67 (57 * i0) k (fun j => σ 59 j)) = E (blk σ 67 (57 * i0) (57) (fun j => σ 59 j)) := by
  intro r
  induction r with
  | zero =>
    intro n k hk hn
    obtain ⟨n, rfl⟩ : ∃ j, n = j + 1 := ⟨n - 1, by omega⟩
    have e : k = 57 := by omega
    rw [e]
    show b_X7_image_25 N Q (nI i0) E _ (nI (57)) (blk σ 67 (57 * i0) (57) (fun j => σ 59 j)) = _
    unfold b_X7_image_25
    simp (disch := omega) only [lit_57, z_le, Nat.le_refl, if_true]
  | succ r ih =>
    intro n k hk hn
    obtain ⟨n, rfl⟩ : ∃ j, n = j + 1 := ⟨n - 1, by omega⟩
    have := ih n (k + 1) (by omega) (by omega)
    rw [← this]
    show b_X7_image_25 N Q (nI i0) E _ (nI k) (blk σ 67 (57 * i0) k (fun j => σ 59 j)) = _
    unfold b_X7_image_25
    have z : ¬ 57 ≤ k := by omega
    simp (disch := omega) only [lit_57, pk_mul, nI_add, z_le, z, if_false, z_vp, z_clI, true_and, forall_eq, nI_1]
    rw [blk_out (by omega), blk_step rfl rfl]
theorem l_restore27 {i0 : Nat} (hi : i0 < 2) : ∀ (r n k : Nat), k + r = 57 → r < n → l_X7_restore_27 N Q (nI i0) n (nI k) (blk σ 59 0 k (fun j => σ 67 (57 * i0 + j))) = Q 1 (st2 (blk σ 59 0 (57) (fun j => σ 67 (57 * i0 + j))) 55 17 0) := by
  intro r
  induction r with
  | zero =>
    intro n k hk hn
    obtain ⟨n, rfl⟩ : ∃ j, n = j + 1 := ⟨n - 1, by omega⟩
    have e : k = 57 := by omega
    rw [e]
    show b_X7_restore_27 N Q (nI i0) _ (nI (57)) (blk σ 59 0 (57) (fun j => σ 67 (57 * i0 + j))) = _
    unfold b_X7_restore_27
    simp (disch := omega) only [lit_57, z_le, Nat.le_refl, if_true, forall_eq]
  | succ r ih =>
    intro n k hk hn
    obtain ⟨n, rfl⟩ : ∃ j, n = j + 1 := ⟨n - 1, by omega⟩
    have := ih n (k + 1) (by omega) (by omega)
    rw [← this]
    show b_X7_restore_27 N Q (nI i0) _ (nI k) (blk σ 59 0 k (fun j => σ 67 (57 * i0 + j))) = _
    unfold b_X7_restore_27
    have z : ¬ 57 ≤ k := by omega
    simp (disch := omega) only [lit_57, pk_mul, nI_add, z_le, z, if_false, z_vp, z_clI, true_and, forall_eq, nI_1]
    rw [blk_out (by omega), blk_step (by omega) rfl]
theorem l_hall32   : ∀ (r n k : Nat), k + r = 57 → r < n → l_X7_hall_32 N Q E n (nI k) (blk σ 59 0 k (fun j => σ 62 j)) = E (blk σ 59 0 (57) (fun j => σ 62 j)) := by
  intro r
  induction r with
  | zero =>
    intro n k hk hn
    obtain ⟨n, rfl⟩ : ∃ j, n = j + 1 := ⟨n - 1, by omega⟩
    have e : k = 57 := by omega
    rw [e]
    show b_X7_hall_32 N Q E _ (nI (57)) (blk σ 59 0 (57) (fun j => σ 62 j)) = _
    unfold b_X7_hall_32
    simp (disch := omega) only [lit_57, z_le, Nat.le_refl, if_true]
  | succ r ih =>
    intro n k hk hn
    obtain ⟨n, rfl⟩ : ∃ j, n = j + 1 := ⟨n - 1, by omega⟩
    have := ih n (k + 1) (by omega) (by omega)
    rw [← this]
    show b_X7_hall_32 N Q E _ (nI k) (blk σ 59 0 k (fun j => σ 62 j)) = _
    unfold b_X7_hall_32
    have z : ¬ 57 ≤ k := by omega
    simp (disch := omega) only [lit_57, pk_mul, nI_add, z_le, z, if_false, z_vp, z_clI, true_and, forall_eq, nI_1]
    rw [blk_out (by omega), blk_step (by omega) rfl]
theorem l_readHall7   : ∀ (r n k : Nat), k + r = 57 → r < n → l_X7_readHall_7 N Q E n (nI k) (blk σ 62 0 k (fun _ => 0)) = E (blk σ 62 0 (57) (fun _ => 0)) := by
  intro r
  induction r with
  | zero =>
    intro n k hk hn
    obtain ⟨n, rfl⟩ : ∃ j, n = j + 1 := ⟨n - 1, by omega⟩
    have e : k = 57 := by omega
    rw [e]
    show b_X7_readHall_7 N Q E _ (nI (57)) (blk σ 62 0 (57) (fun _ => 0)) = _
    unfold b_X7_readHall_7
    simp (disch := omega) only [lit_57, z_le, Nat.le_refl, if_true]
  | succ r ih =>
    intro n k hk hn
    obtain ⟨n, rfl⟩ : ∃ j, n = j + 1 := ⟨n - 1, by omega⟩
    have := ih n (k + 1) (by omega) (by omega)
    rw [← this]
    show b_X7_readHall_7 N Q E _ (nI k) (blk σ 62 0 k (fun _ => 0)) = _
    unfold b_X7_readHall_7
    have z : ¬ 57 ≤ k := by omega
    simp (disch := omega) only [lit_57, pk_mul, nI_add, z_le, z, if_false, z_vp, z_clI, true_and, forall_eq, nI_1]
    rw [blk_step (by omega) rfl]
end BL
