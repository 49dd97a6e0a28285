/-- sums of naturals over the first n numbers -/
def qs_sm (f : Nat → Nat) : Nat → Nat
  | 0 => 0
  | n + 1 => qs_sm f n + f n
def qs_b (a b : Nat) : Nat := if a = b then 1 else 0
theorem qs_b1 {a b : Nat} (h : a = b) : qs_b a b = 1 := if_pos h
theorem qs_b0 {a b : Nat} (h : a ≠ b) : qs_b a b = 0 := if_neg h
theorem qs_ble (a b : Nat) : qs_b a b ≤ 1 := by
  by_cases e : a = b
  · rw [qs_b1 e]; exact Nat.le_refl 1
  · rw [qs_b0 e]; exact Nat.zero_le 1
theorem qs_bp {a b : Nat} (h : 0 < qs_b a b) : a = b := by
  by_cases e : a = b
  · exact e
  · rw [qs_b0 e] at h; omega
theorem qs_bs (a b : Nat) : qs_b (a + 1) (b + 1) = qs_b a b := by
  by_cases e : a = b
  · rw [qs_b1 e, qs_b1 (by omega)]
  · rw [qs_b0 e, qs_b0 (by omega)]
theorem qs_congr {f g : Nat → Nat} : ∀ n : Nat, (∀ i, i < n → f i = g i) → qs_sm f n = qs_sm g n := by
  intro n
  induction n with
  | zero => intro _; rfl
  | succ n ih =>
    intro h
    have a := ih (fun i hi => h i (by omega))
    have b := h n (by omega)
    show qs_sm f n + f n = qs_sm g n + g n
    omega
theorem qs_zero {f : Nat → Nat} : ∀ n : Nat, (∀ i, i < n → f i = 0) → qs_sm f n = 0 := by
  intro n
  induction n with
  | zero => intro _; rfl
  | succ n ih =>
    intro h
    have a := ih (fun i hi => h i (by omega))
    have b := h n (by omega)
    show qs_sm f n + f n = 0
    omega
theorem qs_one {f g : Nat → Nat} {k : Nat} : ∀ n : Nat, k < n → (∀ i, i < n → i ≠ k → f i = g i) → qs_sm f n + g k = qs_sm g n + f k := by
  intro n
  induction n with
  | zero => intro h; omega
  | succ n ih =>
    intro hk h
    show qs_sm f n + f n + g k = qs_sm g n + g n + f k
    by_cases e : k = n
    · have a := qs_congr (f := f) (g := g) n (fun i hi => h i (by omega) (by omega))
      rw [e]
      omega
    · have a := ih (by omega) (fun i hi => h i (by omega))
      have b := h n (by omega) (by omega)
      omega
theorem qs_add (f g : Nat → Nat) : ∀ n : Nat, qs_sm (fun i => f i + g i) n = qs_sm f n + qs_sm g n := by
  intro n
  induction n with
  | zero => rfl
  | succ n ih =>
    show qs_sm (fun i => f i + g i) n + (f n + g n) = (qs_sm f n + f n) + (qs_sm g n + g n)
    omega
theorem qs_swap (f : Nat → Nat → Nat) (m : Nat) : ∀ n : Nat, qs_sm (fun i => qs_sm (fun j => f i j) m) n = qs_sm (fun j => qs_sm (fun i => f i j) n) m := by
  intro n
  induction n with
  | zero => exact (qs_zero (f := fun j => qs_sm (fun i => f i j) 0) m (fun _ _ => rfl)).symm
  | succ n ih =>
    show qs_sm (fun i => qs_sm (fun j => f i j) m) n + qs_sm (fun j => f n j) m = qs_sm (fun j => qs_sm (fun i => f i j) n + f n j) m
    rw [ih]
    exact (qs_add (fun j => qs_sm (fun i => f i j) n) (fun j => f n j) m).symm
theorem qs_le {f g : Nat → Nat} : ∀ n : Nat, (∀ i, i < n → f i ≤ g i) → qs_sm f n ≤ qs_sm g n := by
  intro n
  induction n with
  | zero => intro _; exact Nat.le_refl 0
  | succ n ih =>
    intro h
    have a := ih (fun i hi => h i (by omega))
    have b := h n (by omega)
    show qs_sm f n + f n ≤ qs_sm g n + g n
    omega
theorem qs_mulc (f : Nat → Nat) (c : Nat) : ∀ n : Nat, qs_sm (fun i => c * f i) n = c * qs_sm f n := by
  intro n
  induction n with
  | zero => rfl
  | succ n ih =>
    show qs_sm (fun i => c * f i) n + c * f n = c * (qs_sm f n + f n)
    rw [ih, Nat.mul_add]
theorem qs_lec {f : Nat → Nat} (c : Nat) : ∀ n : Nat, (∀ i, i < n → f i ≤ c) → qs_sm f n ≤ n * c := by
  intro n
  induction n with
  | zero => intro _; exact Nat.zero_le _
  | succ n ih =>
    intro h
    have a := ih (fun i hi => h i (by omega))
    have b := h n (by omega)
    show qs_sm f n + f n ≤ (n + 1) * c
    rw [Nat.add_mul, Nat.one_mul]
    omega
theorem qs_ge {f : Nat → Nat} {k : Nat} : ∀ n : Nat, k < n → f k ≤ qs_sm f n := by
  intro n
  induction n with
  | zero => intro h; omega
  | succ n ih =>
    intro hk
    show f k ≤ qs_sm f n + f n
    by_cases e : k = n
    · rw [e]; omega
    · have a := ih (by omega)
      omega
theorem qs_ge2 {f : Nat → Nat} {j k : Nat} : ∀ n : Nat, j < n → k < n → j ≠ k → f j + f k ≤ qs_sm f n := by
  intro n
  induction n with
  | zero => intro h; omega
  | succ n ih =>
    intro hj hk hn
    show f j + f k ≤ qs_sm f n + f n
    by_cases e : k = n
    · have a := qs_ge (f := f) (k := j) n (by omega)
      rw [e]; omega
    · by_cases e2 : j = n
      · have a := qs_ge (f := f) (k := k) n (by omega)
        rw [e2]; omega
      · have a := ih (by omega) (by omega) hn
        omega
theorem qs_pos {f : Nat → Nat} : ∀ n : Nat, 0 < qs_sm f n → ∃ k, k < n ∧ 0 < f k := by
  intro n
  induction n with
  | zero => intro h; exact absurd h (Nat.lt_irrefl 0)
  | succ n ih =>
    intro h
    have h' : 0 < qs_sm f n + f n := h
    by_cases e : 0 < f n
    · exact ⟨n, by omega, e⟩
    · obtain ⟨k, hk, hf⟩ := ih (by omega)
      exact ⟨k, by omega, hf⟩
theorem qs_many {f : Nat → Nat} : ∀ n : Nat, (∀ i, i < n → 0 < f i) → n ≤ qs_sm f n := by
  intro n
  induction n with
  | zero => intro _; exact Nat.zero_le _
  | succ n ih =>
    intro h
    have a := ih (fun i hi => h i (by omega))
    have b := h n (by omega)
    show n + 1 ≤ qs_sm f n + f n
    omega
theorem qs_at0 (a : Nat) : ∀ n : Nat, n < a → qs_sm (fun h => qs_b a (h + 1)) n = 0 := by
  intro n hn
  exact qs_zero n (fun i hi => qs_b0 (by omega))
theorem qs_at (a : Nat) : ∀ n : Nat, qs_sm (fun h => qs_b a (h + 1)) n ≤ 1 := by
  intro n
  induction n with
  | zero => exact Nat.zero_le _
  | succ n ih =>
    show qs_sm (fun h => qs_b a (h + 1)) n + qs_b a (n + 1) ≤ 1
    by_cases e : a = n + 1
    · have z := qs_at0 a n (by omega)
      have o := qs_ble a (n + 1)
      omega
    · rw [qs_b0 e]; omega
