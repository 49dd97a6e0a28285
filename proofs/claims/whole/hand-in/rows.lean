section
theorem pk_us {f : Nat → Int32} {k : Nat} {x : Int32} : upd f k x k = x := if_pos rfl
theorem pk_un {f : Nat → Int32} {k j : Nat} {x : Int32} (h : j ≠ k) : upd f k x j = f j := if_neg h
theorem pk_sub {a b : Nat} (h : b ≤ a) : nI a - nI b = nI (a - b) := by
  obtain ⟨c, rfl⟩ : ∃ c, a = c + b := ⟨a - b, by omega⟩
  rw [← nI_add, Int32.add_sub_cancel, Nat.add_sub_cancel]
theorem pk_m1 (n : Nat) : nI (n + 1) + (-1) = nI n := by
  rw [← nI_1, Int32.add_assoc, show (1 : Int32) + (-1) = 0 from rfl, Int32.add_zero]
theorem pk_mul (a b : Nat) : nI a * nI b = nI (a * b) := (Int32.ofNat_mul a b).symm
theorem pk_div {a d : Nat} (ha : a < 2 ^ 31) (h0 : 0 < d) (hd : d < 2 ^ 31) : nI a / nI d = nI (a / d) := by
  apply Int32.toInt_inj.mp
  rw [lg_idiv_nonneg (by rw [nI_toInt ha]; omega) (by rw [nI_toInt hd]; omega), nI_toInt ha, nI_toInt hd, nI_toInt (Nat.lt_of_le_of_lt (Nat.div_le_self a d) ha)]
  first | rfl | exact (Int.natCast_ediv _ _).symm
theorem pk_rem {a d : Nat} (ha : a < 2 ^ 31) (h0 : 0 < d) (hd : d < 2 ^ 31) : nI a - nI a / nI d * nI d = nI (a % d) := by
  rw [pk_div ha h0 hd, pk_mul, pk_sub (Nat.div_mul_le_self a d)]
  exact congrArg nI (by have := Nat.div_add_mod' a d; omega)
theorem pk_ix (x : Int32) {n : Nat} (hn : n < 2 ^ 31) : x < 0 ∨ nI n ≤ x ∨ ∃ j : Nat, j < n ∧ x = nI j := by
  by_cases h : x < 0
  · exact Or.inl h
  · obtain ⟨j, hj, rfl⟩ := nI_of h
    by_cases h2 : j < n
    · exact Or.inr (Or.inr ⟨j, h2, rfl⟩)
    · exact Or.inr (Or.inl (nI_le (by omega) hj))
theorem pk_le {x y : Int32} {A B : Prop} (a b : Nat) (f : a ≤ b → A) (g : b < a → B) (hx : x = nI a := by rfl) (hy : y = nI b := by rfl) (ha : a < 2 ^ 31 := by omega) (hb : b < 2 ^ 31 := by omega) : (x ≤ y → A) ∧ (¬ x ≤ y → B) := by
  subst hx hy
  rw [nI_leI ha hb]
  exact ⟨f, fun z => g (by omega)⟩
theorem pk_lt {x y : Int32} {A B : Prop} (a b : Nat) (f : a < b → A) (g : b ≤ a → B) (hx : x = nI a := by rfl) (hy : y = nI b := by rfl) (ha : a < 2 ^ 31 := by omega) (hb : b < 2 ^ 31 := by omega) : (x < y → A) ∧ (¬ x < y → B) := by
  subst hx hy
  rw [nI_ltI ha hb]
  exact ⟨f, fun z => g (by omega)⟩
theorem pk_eq {x y : Int32} {A B : Prop} (a b : Nat) (f : a = b → A) (g : a ≠ b → B) (hx : x = nI a := by rfl) (hy : y = nI b := by rfl) (ha : a < 2 ^ 31 := by omega) (hb : b < 2 ^ 31 := by omega) : (x = y → A) ∧ (¬ x = y → B) := by
  subst hx hy
  rw [nI_eq ha hb]
  exact ⟨f, g⟩
theorem pk_in {x : Int32} (n N : Nat) (h : n < N) (hx : x = nI n := by rfl) (hN : N < 2 ^ 31 := by omega) : vp_in x N := by
  subst hx
  exact vp_in_nI h hN
theorem pk_cl {x : Int32} (n : Nat) (hx : x = nI n := by rfl) (h : n < 2 ^ 31 := by omega) : x.toNatClampNeg = n := by
  subst hx
  exact nI_clamp h
theorem pk_tn {n : Nat} (h : n < 2 ^ 32) : (nI n).toBitVec.toNat = n := Nat.mod_eq_of_lt h
theorem pk_loop {σ : Type} (W : Nat → Nat → σ → Prop) (I : Nat → σ → Prop) (e i0 : Nat) (s : σ) (hi : i0 ≤ e) (h0 : I i0 s) (hx : ∀ n s, I e s → W (n + 1) e s)
    (hs : ∀ n i s, i < e → I i s → (∀ s', I (i + 1) s' → W n (i + 1) s') → W (n + 1) i s) : ∃ n, W n i0 s :=
  ⟨e + 1, loop_i W I e hx hs (e + 1) i0 s hi (by omega) h0⟩
theorem pk_least (P : Nat → Prop) (h : ∃ k, P k) : ∃ k, P k ∧ ∀ j, j < k → ¬ P j := by
  obtain ⟨k, hk⟩ := h
  induction k using Nat.strongRecOn with
  | ind k ih =>
    by_cases e : ∃ j, j < k ∧ P j
    · obtain ⟨j, hj, pj⟩ := e
      exact ih j hj pj
    · exact ⟨k, hk, fun j hj pj => e ⟨j, hj, pj⟩⟩
def bt (x : Int32) (i : Nat) : Bool := x.toBitVec.getLsbD i
theorem b_ext {x y : Int32} (h : ∀ i, i < 32 → bt x i = bt y i) : x = y := Int32.toBitVec_inj.mp (BitVec.eq_of_getLsbD_eq (fun i hi => h i hi))
theorem b_or (x y : Int32) (i : Nat) : bt (x ||| y) i = (bt x i || bt y i) := by unfold bt; rw [Int32.toBitVec_or, BitVec.getLsbD_or]
theorem b_and (x y : Int32) (i : Nat) : bt (x &&& y) i = (bt x i && bt y i) := by unfold bt; rw [Int32.toBitVec_and, BitVec.getLsbD_and]
theorem b_big {x : Int32} {i : Nat} (h : 32 ≤ i) : bt x i = false := BitVec.getLsbD_of_ge _ _ h
theorem b_0 (i : Nat) : bt 0 i = false := BitVec.getLsbD_zero
theorem s_l : ∀ n, n < 32 → ((nI n &&& 31).toBitVec.smod 32).toNat = n := by decide +kernel
theorem s_u : ∀ n, n < 32 → (((nI n).toUInt32 &&& Int32.toUInt32 31).toBitVec % 32).toNat = n := by decide +kernel
theorem b_shl (n : Nat) (hn : n < 32) (x : Int32) {i : Nat} (hi : i < 32) : bt (x <<< (nI n &&& 31)) i = (decide (n ≤ i) && bt x (i - n)) := by
  unfold bt
  rw [Int32.toBitVec_shiftLeft]
  show (x.toBitVec <<< ((nI n &&& 31).toBitVec.smod 32).toNat).getLsbD i = _
  rw [s_l n hn, BitVec.getLsbD_shiftLeft]
  rcases Nat.lt_or_ge i n with h | h
  · simp [h, Nat.not_le.mpr h]
  · simp [hi, h, Nat.not_lt.mpr h]
theorem b_ushr (n : Nat) (hn : n < 32) (x : Int32) (i : Nat) : bt ((x.toUInt32 >>> ((nI n).toUInt32 &&& Int32.toUInt32 31)).toInt32) i = bt x (n + i) := by
  show (x.toUInt32 >>> ((nI n).toUInt32 &&& Int32.toUInt32 31)).toBitVec.getLsbD i = x.toUInt32.toBitVec.getLsbD (n + i)
  rw [UInt32.toBitVec_shiftRight]
  show (x.toUInt32.toBitVec >>> (((nI n).toUInt32 &&& Int32.toUInt32 31).toBitVec % 32).toNat).getLsbD i = _
  rw [s_u n hn, BitVec.getLsbD_ushiftRight]
end
section
/-- sums of naturals over the first n numbers -/
def qs_sm (f : Nat → Nat) : Nat → Nat
  | 0 => 0
  | n + 1 => qs_sm f n + f n
def qs_b (a b : Nat) : Nat := if a = b then 1 else 0
theorem qs_b1 {a b : Nat} (h : a = b) : qs_b a b = 1 := if_pos h
theorem qs_b0 {a b : Nat} (h : a ≠ b) : qs_b a b = 0 := if_neg h
theorem qs_ble (a b : Nat) : qs_b a b ≤ 1 := by
  by_cases e : a = b
  · rw [qs_b1 e]; exact Nat.le_refl 1
  · rw [qs_b0 e]; exact Nat.zero_le 1
theorem qs_bp {a b : Nat} (h : 0 < qs_b a b) : a = b := by
  by_cases e : a = b
  · exact e
  · rw [qs_b0 e] at h; omega
theorem qs_bs (a b : Nat) : qs_b (a + 1) (b + 1) = qs_b a b := by
  by_cases e : a = b
  · rw [qs_b1 e, qs_b1 (by omega)]
  · rw [qs_b0 e, qs_b0 (by omega)]
theorem qs_congr {f g : Nat → Nat} : ∀ n : Nat, (∀ i, i < n → f i = g i) → qs_sm f n = qs_sm g n := by
  intro n
  induction n with
  | zero => intro _; rfl
  | succ n ih =>
    intro h
    have a := ih (fun i hi => h i (by omega))
    have b := h n (by omega)
    show qs_sm f n + f n = qs_sm g n + g n
    omega
theorem qs_zero {f : Nat → Nat} : ∀ n : Nat, (∀ i, i < n → f i = 0) → qs_sm f n = 0 := by
  intro n
  induction n with
  | zero => intro _; rfl
  | succ n ih =>
    intro h
    have a := ih (fun i hi => h i (by omega))
    have b := h n (by omega)
    show qs_sm f n + f n = 0
    omega
theorem qs_one {f g : Nat → Nat} {k : Nat} : ∀ n : Nat, k < n → (∀ i, i < n → i ≠ k → f i = g i) → qs_sm f n + g k = qs_sm g n + f k := by
  intro n
  induction n with
  | zero => intro h; omega
  | succ n ih =>
    intro hk h
    show qs_sm f n + f n + g k = qs_sm g n + g n + f k
    by_cases e : k = n
    · have a := qs_congr (f := f) (g := g) n (fun i hi => h i (by omega) (by omega))
      rw [e]
      omega
    · have a := ih (by omega) (fun i hi => h i (by omega))
      have b := h n (by omega) (by omega)
      omega
theorem qs_add (f g : Nat → Nat) : ∀ n : Nat, qs_sm (fun i => f i + g i) n = qs_sm f n + qs_sm g n := by
  intro n
  induction n with
  | zero => rfl
  | succ n ih =>
    show qs_sm (fun i => f i + g i) n + (f n + g n) = (qs_sm f n + f n) + (qs_sm g n + g n)
    omega
theorem qs_swap (f : Nat → Nat → Nat) (m : Nat) : ∀ n : Nat, qs_sm (fun i => qs_sm (fun j => f i j) m) n = qs_sm (fun j => qs_sm (fun i => f i j) n) m := by
  intro n
  induction n with
  | zero => exact (qs_zero (f := fun j => qs_sm (fun i => f i j) 0) m (fun _ _ => rfl)).symm
  | succ n ih =>
    show qs_sm (fun i => qs_sm (fun j => f i j) m) n + qs_sm (fun j => f n j) m = qs_sm (fun j => qs_sm (fun i => f i j) n + f n j) m
    rw [ih]
    exact (qs_add (fun j => qs_sm (fun i => f i j) n) (fun j => f n j) m).symm
theorem qs_le {f g : Nat → Nat} : ∀ n : Nat, (∀ i, i < n → f i ≤ g i) → qs_sm f n ≤ qs_sm g n := by
  intro n
  induction n with
  | zero => intro _; exact Nat.le_refl 0
  | succ n ih =>
    intro h
    have a := ih (fun i hi => h i (by omega))
    have b := h n (by omega)
    show qs_sm f n + f n ≤ qs_sm g n + g n
    omega
theorem qs_mulc (f : Nat → Nat) (c : Nat) : ∀ n : Nat, qs_sm (fun i => c * f i) n = c * qs_sm f n := by
  intro n
  induction n with
  | zero => rfl
  | succ n ih =>
    show qs_sm (fun i => c * f i) n + c * f n = c * (qs_sm f n + f n)
    rw [ih, Nat.mul_add]
theorem qs_lec {f : Nat → Nat} (c : Nat) : ∀ n : Nat, (∀ i, i < n → f i ≤ c) → qs_sm f n ≤ n * c := by
  intro n
  induction n with
  | zero => intro _; exact Nat.zero_le _
  | succ n ih =>
    intro h
    have a := ih (fun i hi => h i (by omega))
    have b := h n (by omega)
    show qs_sm f n + f n ≤ (n + 1) * c
    rw [Nat.add_mul, Nat.one_mul]
    omega
theorem qs_ge {f : Nat → Nat} {k : Nat} : ∀ n : Nat, k < n → f k ≤ qs_sm f n := by
  intro n
  induction n with
  | zero => intro h; omega
  | succ n ih =>
    intro hk
    show f k ≤ qs_sm f n + f n
    by_cases e : k = n
    · rw [e]; omega
    · have a := ih (by omega)
      omega
theorem qs_ge2 {f : Nat → Nat} {j k : Nat} : ∀ n : Nat, j < n → k < n → j ≠ k → f j + f k ≤ qs_sm f n := by
  intro n
  induction n with
  | zero => intro h; omega
  | succ n ih =>
    intro hj hk hn
    show f j + f k ≤ qs_sm f n + f n
    by_cases e : k = n
    · have a := qs_ge (f := f) (k := j) n (by omega)
      rw [e]; omega
    · by_cases e2 : j = n
      · have a := qs_ge (f := f) (k := k) n (by omega)
        rw [e2]; omega
      · have a := ih (by omega) (by omega) hn
        omega
theorem qs_pos {f : Nat → Nat} : ∀ n : Nat, 0 < qs_sm f n → ∃ k, k < n ∧ 0 < f k := by
  intro n
  induction n with
  | zero => intro h; exact absurd h (Nat.lt_irrefl 0)
  | succ n ih =>
    intro h
    have h' : 0 < qs_sm f n + f n := h
    by_cases e : 0 < f n
    · exact ⟨n, by omega, e⟩
    · obtain ⟨k, hk, hf⟩ := ih (by omega)
      exact ⟨k, by omega, hf⟩
theorem qs_many {f : Nat → Nat} : ∀ n : Nat, (∀ i, i < n → 0 < f i) → n ≤ qs_sm f n := by
  intro n
  induction n with
  | zero => intro _; exact Nat.zero_le _
  | succ n ih =>
    intro h
    have a := ih (fun i hi => h i (by omega))
    have b := h n (by omega)
    show n + 1 ≤ qs_sm f n + f n
    omega
theorem qs_at0 (a : Nat) : ∀ n : Nat, n < a → qs_sm (fun h => qs_b a (h + 1)) n = 0 := by
  intro n hn
  exact qs_zero n (fun i hi => qs_b0 (by omega))
theorem qs_at (a : Nat) : ∀ n : Nat, qs_sm (fun h => qs_b a (h + 1)) n ≤ 1 := by
  intro n
  induction n with
  | zero => exact Nat.zero_le _
  | succ n ih =>
    show qs_sm (fun h => qs_b a (h + 1)) n + qs_b a (n + 1) ≤ 1
    by_cases e : a = n + 1
    · have z := qs_at0 a n (by omega)
      have o := qs_ble a (n + 1)
      omega
    · rw [qs_b0 e]; omega
end
section
/-- an entry of the store as a natural number -/
def qr_T (H : Nat → Int32) (j : Nat) : Nat := (H j).toNatClampNeg
def qr_nE (E : Nat → Nat) (h : Nat) : Nat := qs_sm (fun p => qs_b (E p) (h + 1)) 20
def qr_nT (H : Nat → Int32) (t h : Nat) : Nat := qs_sm (fun i => qs_b (qr_T H (t * 4 + i)) (h + 1)) 4
def qr_dR (E : Nat → Nat) (H : Nat → Int32) (t h : Nat) : Nat := if 0 < qr_nE E t then qr_nT H t h else 0
def qr_ref (E : Nat → Nat) (H : Nat → Int32) (h : Nat) : Nat := qr_nE E h + qs_sm (fun t => qr_dR E H t h) 128
def qr_ue (E : Nat → Nat) (q x : Nat) : Nat → Nat := fun p => if p = q then x else E p
def qr_Lv (E : Nat → Nat) (t : Nat) : Prop := ∃ p, p < 20 ∧ E p = t + 1
def qr_Rw (E : Nat → Nat) (H : Nat → Int32) (t : Nat) : Prop := ∀ i, i < 4 → H (t * 4 + i) = nI (qr_T H (t * 4 + i)) ∧ qr_T H (t * 4 + i) ≤ 128 ∧ (∀ p, p < 20 → E p = qr_T H (t * 4 + i) → qr_T H (t * 4 + i) = 0)
def qr_PI (E : Nat → Nat) (H : Nat → Int32) : Prop := (∀ p, E p ≤ 128) ∧ ∀ t, qr_Lv E t → qr_Rw E H t
theorem qr_ue_s (E : Nat → Nat) (q x : Nat) : qr_ue E q x q = x := if_pos rfl
theorem qr_ue_n {E : Nat → Nat} {q x p : Nat} (h : p ≠ q) : qr_ue E q x p = E p := if_neg h
theorem qr_ue2 (E : Nat → Nat) (q x y : Nat) : qr_ue (qr_ue E q x) q y = qr_ue E q y := by
  funext p
  by_cases e : p = q
  · rw [e, qr_ue_s, qr_ue_s]
  · rw [qr_ue_n e, qr_ue_n e, qr_ue_n e]
theorem qr_ue_id {E : Nat → Nat} {q x : Nat} (h : E q = x) : qr_ue E q x = E := by
  funext p
  by_cases e : p = q
  · rw [e, qr_ue_s, h]
  · rw [qr_ue_n e]
theorem qr_Tn {H : Nat → Int32} {j w : Nat} (h : H j = nI w) (hw : w < 2 ^ 31) : qr_T H j = w := by
  unfold qr_T
  rw [h, nI_clamp hw]
theorem qr_Tc {H H' : Nat → Int32} {j : Nat} (h : H' j = H j) : qr_T H' j = qr_T H j := by
  unfold qr_T
  rw [h]
theorem qr_lv {E : Nat → Nat} {t : Nat} : 0 < qr_nE E t ↔ qr_Lv E t := by
  constructor
  · intro h
    obtain ⟨k, hk, h1⟩ := qs_pos (f := fun p => qs_b (E p) (t + 1)) 20 h
    exact ⟨k, hk, qs_bp h1⟩
  · intro ⟨p, hp, e⟩
    have h : qs_b (E p) (t + 1) ≤ qr_nE E t := qs_ge (f := fun p => qs_b (E p) (t + 1)) 20 hp
    rw [qs_b1 e] at h
    omega
theorem qr_nE0 {E : Nat → Nat} {t : Nat} (h : ¬ qr_Lv E t) : qr_nE E t = 0 := by
  by_cases e : 0 < qr_nE E t
  · exact absurd (qr_lv.mp e) h
  · omega
theorem qr_nEle (E : Nat → Nat) (t : Nat) : qr_nE E t ≤ 20 := by
  have h : qr_nE E t ≤ 20 * 1 := qs_lec (f := fun p => qs_b (E p) (t + 1)) 1 20 (fun p _ => qs_ble _ _)
  omega
theorem qr_nTle (H : Nat → Int32) (t h : Nat) : qr_nT H t h ≤ 4 := by
  have h : qr_nT H t h ≤ 4 * 1 := qs_lec (f := fun i => qs_b (qr_T H (t * 4 + i)) (h + 1)) 1 4 (fun p _ => qs_ble _ _)
  omega
theorem qr_dRle (E : Nat → Nat) (H : Nat → Int32) (t h : Nat) : qr_dR E H t h ≤ 4 := by
  unfold qr_dR
  have a := qr_nTle H t h
  by_cases e : 0 < qr_nE E t
  · rw [if_pos e]; exact a
  · rw [if_neg e]; exact Nat.zero_le 4
theorem qr_refle (E : Nat → Nat) (H : Nat → Int32) (h : Nat) : qr_ref E H h ≤ 532 := by
  have a := qr_nEle E h
  have b : qs_sm (fun t => qr_dR E H t h) 128 ≤ 128 * 4 := qs_lec (f := fun t => qr_dR E H t h) 4 128 (fun t _ => qr_dRle E H t h)
  unfold qr_ref
  omega
theorem qr_dR1 {E : Nat → Nat} {H : Nat → Int32} {t h : Nat} (L : qr_Lv E t) : qr_dR E H t h = qr_nT H t h := if_pos (qr_lv.mpr L)
theorem qr_dR0 {E : Nat → Nat} {H : Nat → Int32} {t h : Nat} (L : ¬ qr_Lv E t) : qr_dR E H t h = 0 := if_neg (fun e => L (qr_lv.mp e))
theorem qr_nTc {H H' : Nat → Int32} {t h : Nat} (e : ∀ i, i < 4 → H' (t * 4 + i) = H (t * 4 + i)) : qr_nT H' t h = qr_nT H t h :=
  qs_congr 4 (fun i hi => by
    show qs_b (qr_T H' (t * 4 + i)) (h + 1) = qs_b (qr_T H (t * 4 + i)) (h + 1)
    rw [qr_Tc (e i hi)])
theorem qr_nE_ue {E : Nat → Nat} {q t : Nat} (hq : q < 20) (h0 : E q = 0) (h : Nat) : qr_nE (qr_ue E q (t + 1)) h = qr_nE E h + qs_b t h := by
  have a : qr_nE (qr_ue E q (t + 1)) h + qs_b (E q) (h + 1) = qr_nE E h + qs_b (qr_ue E q (t + 1) q) (h + 1) :=
    qs_one (f := fun p => qs_b (qr_ue E q (t + 1) p) (h + 1)) (g := fun p => qs_b (E p) (h + 1)) (k := q) 20 hq (fun i _ hi => by
      show qs_b (qr_ue E q (t + 1) i) (h + 1) = qs_b (E i) (h + 1)
      rw [qr_ue_n hi])
  rw [qr_ue_s, qs_bs, h0, qs_b0 (by omega)] at a
  exact a
theorem qr_Lv_ue {E : Nat → Nat} {q t : Nat} (hq : q < 20) (s : Nat) : qr_Lv (qr_ue E q (t + 1)) s → qr_Lv E s ∨ s = t := by
  intro ⟨p, hp, e⟩
  by_cases hpq : p = q
  · rw [hpq, qr_ue_s] at e
    exact Or.inr (by omega)
  · rw [qr_ue_n hpq] at e
    exact Or.inl ⟨p, hp, e⟩
theorem qr_Lv_ueR {E : Nat → Nat} {q t s : Nat} (h0 : E q = 0) (L : qr_Lv E s) : qr_Lv (qr_ue E q (t + 1)) s := by
  obtain ⟨p, hp, e⟩ := L
  have hpq : p ≠ q := by intro z; rw [z] at e; omega
  exact ⟨p, hp, by rw [qr_ue_n hpq]; exact e⟩
theorem qr_refE {E : Nat → Nat} {H : Nat → Int32} {q t : Nat} (hq : q < 20) (h0 : E q = 0) (ht : t < 128) (h : Nat) : qr_ref (qr_ue E q (t + 1)) H h + qr_dR E H t h = qr_ref E H h + qs_b t h + qr_nT H t h := by
  have a : qs_sm (fun s => qr_dR (qr_ue E q (t + 1)) H s h) 128 + qr_dR E H t h = qs_sm (fun s => qr_dR E H s h) 128 + qr_dR (qr_ue E q (t + 1)) H t h :=
    qs_one (f := fun s => qr_dR (qr_ue E q (t + 1)) H s h) (g := fun s => qr_dR E H s h) (k := t) 128 ht (fun s _ hs => by
      show qr_dR (qr_ue E q (t + 1)) H s h = qr_dR E H s h
      by_cases L : qr_Lv E s
      · rw [qr_dR1 L, qr_dR1 (qr_Lv_ueR h0 L)]
      · have L' : ¬ qr_Lv (qr_ue E q (t + 1)) s := fun z => (qr_Lv_ue hq s z).elim L hs
        rw [qr_dR0 L, qr_dR0 L'])
  have Lt : qr_Lv (qr_ue E q (t + 1)) t := ⟨q, hq, qr_ue_s _ _ _⟩
  have b := qr_nE_ue (t := t) hq h0 h
  rw [qr_dR1 Lt] at a
  unfold qr_ref
  omega
theorem qr_refc {E : Nat → Nat} {H H' : Nat → Int32} (e : ∀ s i, qr_Lv E s → i < 4 → H' (s * 4 + i) = H (s * 4 + i)) (h : Nat) : qr_ref E H' h = qr_ref E H h := by
  have a : qs_sm (fun s => qr_dR E H' s h) 128 = qs_sm (fun s => qr_dR E H s h) 128 := qs_congr 128 (fun s _ => by
    show qr_dR E H' s h = qr_dR E H s h
    by_cases L : qr_Lv E s
    · rw [qr_dR1 L, qr_dR1 L, qr_nTc (fun i hi => e s i L hi)]
    · rw [qr_dR0 L, qr_dR0 L])
  unfold qr_ref
  rw [a]
theorem qr_nT1 {H H' : Nat → Int32} {t k : Nat} (hk : k < 4) (e : ∀ i, i < 4 → i ≠ k → H' (t * 4 + i) = H (t * 4 + i)) (h : Nat) : qr_nT H' t h + qs_b (qr_T H (t * 4 + k)) (h + 1) = qr_nT H t h + qs_b (qr_T H' (t * 4 + k)) (h + 1) :=
  qs_one (f := fun i => qs_b (qr_T H' (t * 4 + i)) (h + 1)) (g := fun i => qs_b (qr_T H (t * 4 + i)) (h + 1)) (k := k) 4 hk (fun i hi hn => by
    show qs_b (qr_T H' (t * 4 + i)) (h + 1) = qs_b (qr_T H (t * 4 + i)) (h + 1)
    rw [qr_Tc (e i hi hn)])
theorem qr_refC {E : Nat → Nat} {H H' : Nat → Int32} {t k : Nat} (L : qr_Lv E t) (ht : t < 128) (hk : k < 4) (e : ∀ s i, qr_Lv E s → i < 4 → (s ≠ t ∨ i ≠ k) → H' (s * 4 + i) = H (s * 4 + i)) (h : Nat) : qr_ref E H' h + qs_b (qr_T H (t * 4 + k)) (h + 1) = qr_ref E H h + qs_b (qr_T H' (t * 4 + k)) (h + 1) := by
  have a : qs_sm (fun s => qr_dR E H' s h) 128 + qr_dR E H t h = qs_sm (fun s => qr_dR E H s h) 128 + qr_dR E H' t h :=
    qs_one (f := fun s => qr_dR E H' s h) (g := fun s => qr_dR E H s h) (k := t) 128 ht (fun s _ hs => by
      show qr_dR E H' s h = qr_dR E H s h
      by_cases Ls : qr_Lv E s
      · rw [qr_dR1 Ls, qr_dR1 Ls, qr_nTc (fun i hi => e s i Ls hi (Or.inl hs))]
      · rw [qr_dR0 Ls, qr_dR0 Ls])
  have b := qr_nT1 (H := H) (H' := H') hk (fun i hi hn => e t i L hi (Or.inr hn)) h
  rw [qr_dR1 L, qr_dR1 L] at a
  unfold qr_ref
  omega
/-- a cluster without a reference -/
theorem qr_free {E : Nat → Nat} {H : Nat → Int32} {h : Nat} (z : qr_ref E H h = 0) : ¬ qr_Lv E h := by
  intro L
  have a := qr_lv.mpr L
  unfold qr_ref at z
  omega
theorem qr_Lt {E : Nat → Nat} {H : Nat → Int32} (P : qr_PI E H) {t : Nat} (L : qr_Lv E t) : t < 128 := by
  obtain ⟨p, _, e⟩ := L
  have := P.1 p
  omega
theorem qr_named {E : Nat → Nat} {H : Nat → Int32} (P : qr_PI E H) {t i h : Nat} (L : qr_Lv E t) (hi : i < 4) (e : qr_T H (t * 4 + i) = h + 1) : 0 < qr_ref E H h := by
  have a : qs_b (qr_T H (t * 4 + i)) (h + 1) ≤ qr_nT H t h := qs_ge (f := fun i => qs_b (qr_T H (t * 4 + i)) (h + 1)) 4 hi
  have b : qr_dR E H t h ≤ qs_sm (fun s => qr_dR E H s h) 128 := qs_ge (f := fun s => qr_dR E H s h) 128 (qr_Lt P L)
  rw [qs_b1 e] at a
  rw [qr_dR1 L] at b
  unfold qr_ref
  omega
theorem qr_freeT {E : Nat → Nat} {H : Nat → Int32} (P : qr_PI E H) {t i h : Nat} (z : qr_ref E H h = 0) (L : qr_Lv E t) (hi : i < 4) : qr_T H (t * 4 + i) ≠ h + 1 := by
  intro e
  have := qr_named P L hi e
  omega
theorem qr_tref {E : Nat → Nat} {H : Nat → Int32} (P : qr_PI E H) {t : Nat} (L : qr_Lv E t) : qr_ref E H t = qr_nE E t := by
  have a : qs_sm (fun s => qr_dR E H s t) 128 = 0 := qs_zero 128 (fun s _ => by
    show qr_dR E H s t = 0
    by_cases Ls : qr_Lv E s
    · rw [qr_dR1 Ls]
      exact qs_zero 4 (fun i hi => qs_b0 (fun e => by
        obtain ⟨p, hp, ep⟩ := L
        have := (P.2 s Ls i hi).2.2 p hp (by rw [ep, e])
        omega))
    · exact qr_dR0 Ls)
  unfold qr_ref
  omega
theorem qr_uniE {E : Nat → Nat} {t p q : Nat} (h1 : qr_nE E t = 1) (hp : p < 20) (hq : q < 20) (ep : E p = t + 1) (eq : E q = t + 1) : p = q := by
  by_cases e : p = q
  · exact e
  · have a : qs_b (E p) (t + 1) + qs_b (E q) (t + 1) ≤ qr_nE E t := qs_ge2 (f := fun p => qs_b (E p) (t + 1)) 20 hp hq e
    rw [qs_b1 ep, qs_b1 eq] at a
    omega
theorem qr_uniT {E : Nat → Nat} {H : Nat → Int32} (P : qr_PI E H) {d t i s j : Nat} (h1 : qr_ref E H d = 1) (Lt : qr_Lv E t) (Ls : qr_Lv E s) (hi : i < 4) (hj : j < 4) (et : qr_T H (t * 4 + i) = d + 1) (es : qr_T H (s * 4 + j) = d + 1) : t = s ∧ i = j := by
  have u : qr_ref E H d = qr_nE E d + qs_sm (fun t => qr_dR E H t d) 128 := rfl
  by_cases e : t = s
  · refine ⟨e, ?_⟩
    by_cases e2 : i = j
    · exact e2
    · rw [← e] at es
      have a : qs_b (qr_T H (t * 4 + i)) (d + 1) + qs_b (qr_T H (t * 4 + j)) (d + 1) ≤ qr_nT H t d := qs_ge2 (f := fun i => qs_b (qr_T H (t * 4 + i)) (d + 1)) 4 hi hj e2
      have b : qr_dR E H t d ≤ qs_sm (fun s => qr_dR E H s d) 128 := qs_ge (f := fun s => qr_dR E H s d) 128 (qr_Lt P Lt)
      rw [qs_b1 et, qs_b1 es] at a
      rw [qr_dR1 Lt] at b
      omega
  · have a : qs_b (qr_T H (t * 4 + i)) (d + 1) ≤ qr_nT H t d := qs_ge (f := fun i => qs_b (qr_T H (t * 4 + i)) (d + 1)) 4 hi
    have a' : qs_b (qr_T H (s * 4 + j)) (d + 1) ≤ qr_nT H s d := qs_ge (f := fun i => qs_b (qr_T H (s * 4 + i)) (d + 1)) 4 hj
    have b : qr_dR E H t d + qr_dR E H s d ≤ qs_sm (fun s => qr_dR E H s d) 128 := qs_ge2 (f := fun s => qr_dR E H s d) 128 (qr_Lt P Lt) (qr_Lt P Ls) e
    rw [qs_b1 et] at a
    rw [qs_b1 es] at a'
    rw [qr_dR1 Lt, qr_dR1 Ls] at b
    omega
/-- at most 100 references: one of the first 127 clusters is free -/
theorem qr_sumE (E : Nat → Nat) (n : Nat) : qs_sm (fun h => qr_nE E h) n ≤ 20 := by
  have e : qs_sm (fun h => qr_nE E h) n = qs_sm (fun p => qs_sm (fun h => qs_b (E p) (h + 1)) n) 20 := qs_swap (fun h p => qs_b (E p) (h + 1)) 20 n
  have a : qs_sm (fun p => qs_sm (fun h => qs_b (E p) (h + 1)) n) 20 ≤ 20 * 1 := qs_lec (f := fun p => qs_sm (fun h => qs_b (E p) (h + 1)) n) 1 20 (fun p _ => qs_at (E p) n)
  omega
theorem qr_sumT (H : Nat → Int32) (t n : Nat) : qs_sm (fun h => qr_nT H t h) n ≤ 4 := by
  have e : qs_sm (fun h => qr_nT H t h) n = qs_sm (fun i => qs_sm (fun h => qs_b (qr_T H (t * 4 + i)) (h + 1)) n) 4 := qs_swap (fun h i => qs_b (qr_T H (t * 4 + i)) (h + 1)) 4 n
  have a : qs_sm (fun i => qs_sm (fun h => qs_b (qr_T H (t * 4 + i)) (h + 1)) n) 4 ≤ 4 * 1 := qs_lec (f := fun i => qs_sm (fun h => qs_b (qr_T H (t * 4 + i)) (h + 1)) n) 1 4 (fun i _ => qs_at (qr_T H (t * 4 + i)) n)
  omega
theorem qr_sumD (E : Nat → Nat) (H : Nat → Int32) (n : Nat) : qs_sm (fun h => qs_sm (fun t => qr_dR E H t h) 128) n ≤ 80 := by
  have e : qs_sm (fun h => qs_sm (fun t => qr_dR E H t h) 128) n = qs_sm (fun t => qs_sm (fun h => qr_dR E H t h) n) 128 := qs_swap (fun h t => qr_dR E H t h) 128 n
  have a : qs_sm (fun t => qs_sm (fun h => qr_dR E H t h) n) 128 ≤ qs_sm (fun t => 4 * qr_nE E t) 128 := qs_le 128 (fun t _ => by
    show qs_sm (fun h => qr_dR E H t h) n ≤ 4 * qr_nE E t
    by_cases L : qr_Lv E t
    · have b : qs_sm (fun h => qr_dR E H t h) n = qs_sm (fun h => qr_nT H t h) n := qs_congr n (fun h _ => qr_dR1 L)
      have c := qr_sumT H t n
      have d := qr_lv.mpr L
      omega
    · have b : qs_sm (fun h => qr_dR E H t h) n = 0 := qs_zero n (fun h _ => qr_dR0 L)
      omega)
  have b : qs_sm (fun t => 4 * qr_nE E t) 128 = 4 * qs_sm (fun t => qr_nE E t) 128 := qs_mulc (fun t => qr_nE E t) 4 128
  have c := qr_sumE E 128
  omega
theorem qr_room (E : Nat → Nat) (H : Nat → Int32) : ∃ h, h < 127 ∧ qr_ref E H h = 0 := by
  by_cases e : ∃ h, h < 127 ∧ qr_ref E H h = 0
  · exact e
  · exfalso
    have a : 127 ≤ qs_sm (fun h => qr_ref E H h) 127 := qs_many (f := fun h => qr_ref E H h) 127 (fun h hh => by
      show 0 < qr_ref E H h
      by_cases z : qr_ref E H h = 0
      · exact absurd ⟨h, hh, z⟩ e
      · omega)
    have b : qs_sm (fun h => qr_ref E H h) 127 = qs_sm (fun h => qr_nE E h) 127 + qs_sm (fun h => qs_sm (fun t => qr_dR E H t h) 128) 127 := qs_add (fun h => qr_nE E h) (fun h => qs_sm (fun t => qr_dR E H t h) 128) 127
    have c := qr_sumE E 127
    have d := qr_sumD E H 127
    omega
end
section
theorem qr_PIc {E : Nat → Nat} {H H' : Nat → Int32} (e : ∀ s i, qr_Lv E s → i < 4 → H' (s * 4 + i) = H (s * 4 + i)) (P : qr_PI E H) : qr_PI E H' := by
  refine ⟨P.1, fun t L i hi => ?_⟩
  have r := P.2 t L i hi
  have z := e t i L hi
  rw [qr_Tc z, z]
  exact r
theorem qr_Lv_u0 {E : Nat → Nat} {q s : Nat} (L : qr_Lv (qr_ue E q 0) s) : qr_Lv E s := by
  obtain ⟨p, hp, e⟩ := L
  by_cases z : p = q
  · rw [z, qr_ue_s] at e; omega
  · rw [qr_ue_n z] at e; exact ⟨p, hp, e⟩
theorem qr_PIr {E : Nat → Nat} {H : Nat → Int32} (q : Nat) (P : qr_PI E H) : qr_PI (qr_ue E q 0) H := by
  refine ⟨fun p => ?_, fun t L i hi => ?_⟩
  · by_cases z : p = q
    · rw [z, qr_ue_s]; exact Nat.zero_le _
    · rw [qr_ue_n z]; exact P.1 p
  · have r := P.2 t (qr_Lv_u0 L) i hi
    refine ⟨r.1, r.2.1, fun p hp ep => ?_⟩
    by_cases z : p = q
    · rw [z, qr_ue_s] at ep; exact ep.symm
    · rw [qr_ue_n z] at ep; exact r.2.2 p hp ep
theorem qr_PIu {E : Nat → Nat} {H : Nat → Int32} {q t : Nat} (hq : q < 20) (P : qr_PI E H) (ht : t < 128) (hrow : qr_Rw E H t) (hne : ∀ s i, (qr_Lv E s ∨ s = t) → i < 4 → qr_T H (s * 4 + i) ≠ t + 1) : qr_PI (qr_ue E q (t + 1)) H := by
  refine ⟨fun p => ?_, fun s L i hi => ?_⟩
  · by_cases z : p = q
    · rw [z, qr_ue_s]; omega
    · rw [qr_ue_n z]; exact P.1 p
  · have Ls := qr_Lv_ue hq s L
    have r : H (s * 4 + i) = nI (qr_T H (s * 4 + i)) ∧ qr_T H (s * 4 + i) ≤ 128 ∧ (∀ p, p < 20 → E p = qr_T H (s * 4 + i) → qr_T H (s * 4 + i) = 0) := by
      cases Ls with
      | inl a => exact P.2 s a i hi
      | inr a => rw [a]; exact hrow i hi
    refine ⟨r.1, r.2.1, fun p hp ep => ?_⟩
    by_cases z : p = q
    · rw [z, qr_ue_s] at ep
      exact absurd ep.symm (hne s i Ls hi)
    · rw [qr_ue_n z] at ep; exact r.2.2 p hp ep
/-- what a view holds: the entry of its cluster c -/
def qv_de (E : Nat → Nat) (H : Nat → Int32) (v c : Nat) : Nat := if E (v * 4 + c / 4) = 0 then 0 else qr_T H ((E (v * 4 + c / 4) - 1) * 4 + c % 4)
def qv_C (H : Nat → Int32) (d : Nat) (f : Int32) (w : Nat → Int32) : Prop := (d = 0 ∧ f = 0) ∨ (∃ e, d = e + 1 ∧ f = 1 ∧ ∀ i, i < 4 → H (e * 4 + i) = w i)
def qv_V (E : Nat → Nat) (H : Nat → Int32) (v : Nat) (fl wd : Nat → Int32) : Prop := ∀ c, c < 16 → qv_C H (qv_de E H v c) (fl c) (fun i => wd (c * 4 + i))
def qv_S (E : Nat → Nat) (H : Nat → Int32) (E' : Nat → Nat) (H' : Nat → Int32) (v c : Nat) : Prop := qv_de E' H' v c = qv_de E H v c ∧ ∀ d, qv_de E H v c = d + 1 → ∀ i, i < 4 → H' (d * 4 + i) = H (d * 4 + i)
theorem qv_de0 {E : Nat → Nat} {H : Nat → Int32} {v c : Nat} (h : E (v * 4 + c / 4) = 0) : qv_de E H v c = 0 := if_pos h
theorem qv_det {E : Nat → Nat} {H : Nat → Int32} {v c t : Nat} (h : E (v * 4 + c / 4) = t + 1) : qv_de E H v c = qr_T H (t * 4 + c % 4) := by
  have hn : ¬ E (v * 4 + c / 4) = 0 := by omega
  unfold qv_de
  rw [if_neg hn, h, Nat.add_sub_cancel]
theorem qv_ex {E : Nat → Nat} {H : Nat → Int32} {v c d : Nat} (h : qv_de E H v c = d + 1) : ∃ t, E (v * 4 + c / 4) = t + 1 ∧ qr_T H (t * 4 + c % 4) = d + 1 := by
  by_cases z : E (v * 4 + c / 4) = 0
  · rw [qv_de0 z] at h; omega
  · have e : E (v * 4 + c / 4) = (E (v * 4 + c / 4) - 1) + 1 := by omega
    exact ⟨_, e, by rw [← qv_det e]; exact h⟩
theorem qv_Ck {E : Nat → Nat} {H : Nat → Int32} {E' : Nat → Nat} {H' : Nat → Int32} {v c : Nat} {f : Int32} {w : Nat → Int32} (S : qv_S E H E' H' v c) (C : qv_C H (qv_de E H v c) f w) : qv_C H' (qv_de E' H' v c) f w := by
  rw [S.1]
  cases C with
  | inl a => exact Or.inl a
  | inr a =>
    obtain ⟨e, he, hf, hw⟩ := a
    exact Or.inr ⟨e, he, hf, fun i hi => by rw [S.2 e he i hi]; exact hw i hi⟩
theorem qv_St {E : Nat → Nat} {H : Nat → Int32} {E' : Nat → Nat} {H' : Nat → Int32} {E'' : Nat → Nat} {H'' : Nat → Int32} {v c : Nat} (S : qv_S E H E' H' v c) (S' : qv_S E' H' E'' H'' v c) : qv_S E H E'' H'' v c := by
  refine ⟨by rw [S'.1, S.1], fun d hd i hi => ?_⟩
  rw [S'.2 d (by rw [S.1]; exact hd) i hi]
  exact S.2 d hd i hi
theorem qv_Vk {E : Nat → Nat} {H : Nat → Int32} {E' : Nat → Nat} {H' : Nat → Int32} {v : Nat} {fl wd : Nat → Int32} (S : ∀ c, c < 16 → qv_S E H E' H' v c) (V : qv_V E H v fl wd) : qv_V E' H' v fl wd :=
  fun c hc => qv_Ck (S c hc) (V c hc)
theorem qv_SE {E : Nat → Nat} {H : Nat → Int32} {E' : Nat → Nat} {v c : Nat} (e : E' (v * 4 + c / 4) = E (v * 4 + c / 4)) : qv_S E H E' H v c := by
  refine ⟨?_, fun _ _ _ _ => rfl⟩
  unfold qv_de
  rw [e]
/-- a view whose L1 entries are another's shows the same -/
theorem qv_Vc {E : Nat → Nat} {H : Nat → Int32} {E' : Nat → Nat} {v v' : Nat} {fl wd : Nat → Int32} (e : ∀ j, j < 4 → E' (v' * 4 + j) = E (v * 4 + j)) (V : qv_V E H v fl wd) : qv_V E' H v' fl wd := by
  intro c hc
  have h : qv_de E' H v' c = qv_de E H v c := by
    unfold qv_de
    rw [e (c / 4) (by omega)]
  rw [h]
  exact V c hc
theorem qv_Vz {E : Nat → Nat} {H : Nat → Int32} {v : Nat} {fl wd : Nat → Int32} (e : ∀ j, j < 4 → E (v * 4 + j) = 0) (f : ∀ c, c < 16 → fl c = 0) : qv_V E H v fl wd := by
  intro c hc
  exact Or.inl ⟨qv_de0 (e (c / 4) (by omega)), f c hc⟩
/-- a new table for the entry at q, empty or a copy -/
theorem qt_row {E : Nat → Nat} {H H' : Nat → Int32} {q t : Nat} (P : qr_PI E H) (hq : q < 20) (h0 : qr_ref E H t = 0) (hz : E q = 0 → ∀ i, i < 4 → H' (t * 4 + i) = 0) (hc : ∀ e, E q = e + 1 → ∀ i, i < 4 → H' (t * 4 + i) = H (e * 4 + i)) : ∀ i, i < 4 → (H' (t * 4 + i) = nI (qr_T H' (t * 4 + i)) ∧ qr_T H' (t * 4 + i) ≤ 128 ∧ (∀ p, p < 20 → E p = qr_T H' (t * 4 + i) → qr_T H' (t * 4 + i) = 0)) ∧ qr_T H' (t * 4 + i) ≠ t + 1 := by
  intro i hi
  by_cases z : E q = 0
  · have a : H' (t * 4 + i) = nI 0 := hz z i hi
    have b : qr_T H' (t * 4 + i) = 0 := qr_Tn a (by omega)
    rw [b]
    exact ⟨⟨a, Nat.zero_le _, fun _ _ _ => rfl⟩, by omega⟩
  · have e : E q = (E q - 1) + 1 := by omega
    have L : qr_Lv E (E q - 1) := ⟨q, hq, e⟩
    have a := hc _ e i hi
    have b : qr_T H' (t * 4 + i) = qr_T H ((E q - 1) * 4 + i) := by unfold qr_T; rw [a]
    rw [b, a]
    exact ⟨P.2 _ L i hi, qr_freeT P h0 L hi⟩
theorem qt_tab {E : Nat → Nat} {H H' : Nat → Int32} {q t : Nat} (P : qr_PI E H) (hq : q < 20) (ht : t < 128) (h0 : qr_ref E H t = 0) (hr : ∀ s i, s ≠ t → i < 4 → H' (s * 4 + i) = H (s * 4 + i)) (hz : E q = 0 → ∀ i, i < 4 → H' (t * 4 + i) = 0) (hc : ∀ e, E q = e + 1 → ∀ i, i < 4 → H' (t * 4 + i) = H (e * 4 + i)) : qr_PI (qr_ue E q (t + 1)) H' ∧ (∀ v c, v < 5 → c < 16 → qv_S E H (qr_ue E q (t + 1)) H' v c) ∧ qr_nE (qr_ue E q (t + 1)) t = 1 := by
  have nl : ¬ qr_Lv E t := qr_free h0
  have ns : ∀ s, qr_Lv E s → s ≠ t := fun s L z => nl (z ▸ L)
  have hr' : ∀ s i, qr_Lv E s → i < 4 → H' (s * 4 + i) = H (s * 4 + i) := fun s i L hi => hr s i (ns s L) hi
  have P1 : qr_PI E H' := qr_PIc hr' P
  have row := qt_row P hq h0 hz hc
  have rowT : ∀ s i, qr_Lv E s → i < 4 → qr_T H' (s * 4 + i) = qr_T H (s * 4 + i) := fun s i L hi => qr_Tc (hr' s i L hi)
  refine ⟨qr_PIu hq P1 ht (fun i hi => (row i hi).1) ?_, ?_, ?_⟩
  · intro s i Ls hi
    cases Ls with
    | inl L => rw [rowT s i L hi]; exact qr_freeT P h0 L hi
    | inr e => rw [e]; exact (row i hi).2
  · intro v c hv hcc
    have hp : v * 4 + c / 4 < 20 := by omega
    have hk : c % 4 < 4 := by omega
    refine ⟨?_, fun d hd i hi => ?_⟩
    · by_cases z : v * 4 + c / 4 = q
      · have e1 : qr_ue E q (t + 1) (v * 4 + c / 4) = t + 1 := by rw [z, qr_ue_s]
        rw [qv_det e1]
        by_cases y : E q = 0
        · have y' : E (v * 4 + c / 4) = 0 := by rw [z]; exact y
          have a : H' (t * 4 + c % 4) = nI 0 := hz y _ hk
          rw [qv_de0 y']
          exact qr_Tn a (by omega)
        · have e : E q = (E q - 1) + 1 := by omega
          have e2 : E (v * 4 + c / 4) = (E q - 1) + 1 := by rw [z]; exact e
          rw [qv_det e2]
          have a := hc _ e _ hk
          unfold qr_T
          rw [a]
      · have e1 : qr_ue E q (t + 1) (v * 4 + c / 4) = E (v * 4 + c / 4) := qr_ue_n z
        by_cases y : E (v * 4 + c / 4) = 0
        · rw [qv_de0 y, qv_de0 (e1.trans y)]
        · have e : E (v * 4 + c / 4) = (E (v * 4 + c / 4) - 1) + 1 := by omega
          rw [qv_det e, qv_det (e1.trans e)]
          exact rowT _ _ ⟨_, hp, e⟩ hk
    · obtain ⟨s, es, et⟩ := qv_ex hd
      have hdt : d ≠ t := by
        intro z
        rw [z] at et
        exact qr_freeT P h0 ⟨_, hp, es⟩ hk et
      exact hr d i hdt hi
  · have a := qr_nE_ue (E := qr_ue E q 0) (t := t) hq (qr_ue_s _ _ _) t
    rw [qr_ue2, qs_b1 rfl, qr_nE0 (fun L => nl (qr_Lv_u0 L))] at a
    exact a
theorem qt_tab0 {E : Nat → Nat} {H H' : Nat → Int32} {q t : Nat} (hq : q < 20) (ht : t < 128) (h0 : qr_ref E H t = 0) (hr : ∀ s i, s ≠ t → i < 4 → H' (s * 4 + i) = H (s * 4 + i)) (hE : E q = 0) (hz : ∀ i, i < 4 → H' (t * 4 + i) = 0) (h : Nat) : qr_ref (qr_ue E q (t + 1)) H' h = qr_ref E H h + qs_b t h := by
  have nl : ¬ qr_Lv E t := qr_free h0
  have a := qr_refE (H := H') hq hE ht h
  have b := qr_refc (E := E) (fun s i L hi => hr s i (fun z => nl (z ▸ L)) hi) h
  have c : qr_nT H' t h = 0 := qs_zero 4 (fun i hi => qs_b0 (by
    have y : qr_T H' (t * 4 + i) = 0 := qr_Tn (w := 0) (hz i hi) (by omega)
    omega))
  rw [qr_dR0 nl] at a
  omega
theorem qt_rel {E : Nat → Nat} {H : Nat → Int32} {q e : Nat} (hq : q < 20) (he : e < 128) (hE : E q = e + 1) : qr_nE E e = qr_nE (qr_ue E q 0) e + 1 ∧ ∀ h, qr_ref E H h + qr_dR (qr_ue E q 0) H e h = qr_ref (qr_ue E q 0) H h + qs_b e h + qr_nT H e h := by
  have z : qr_ue (qr_ue E q 0) q (e + 1) = E := by rw [qr_ue2, qr_ue_id hE]
  have a := qr_nE_ue (E := qr_ue E q 0) (t := e) hq (qr_ue_s _ _ _) e
  rw [z, qs_b1 rfl] at a
  refine ⟨a, fun h => ?_⟩
  have b := qr_refE (E := qr_ue E q 0) (H := H) hq (qr_ue_s _ _ _) he h
  rw [z] at b
  exact b
theorem qt_tab1 {E : Nat → Nat} {H H' : Nat → Int32} {q t e : Nat} (hq : q < 20) (ht : t < 128) (he : e < 128) (h0 : qr_ref E H t = 0) (hr : ∀ s i, s ≠ t → i < 4 → H' (s * 4 + i) = H (s * 4 + i)) (hE : E q = e + 1) (h1 : qr_nE E e ≠ 1) (h : Nat) : qr_ref (qr_ue E q (t + 1)) H' h + qs_b e h = qr_ref E H h + qs_b t h + qr_nT H' t h := by
  have nl : ¬ qr_Lv E t := qr_free h0
  have nl' : ¬ qr_Lv (qr_ue E q 0) t := fun L => nl (qr_Lv_u0 L)
  obtain ⟨r1, r2⟩ := qt_rel (H := H) hq he hE
  have Le : qr_Lv (qr_ue E q 0) e := by
    have : 0 < qr_nE E e := qr_lv.mpr ⟨q, hq, hE⟩
    exact qr_lv.mp (by omega)
  have a := r2 h
  rw [qr_dR1 Le] at a
  have b := qr_refE (E := qr_ue E q 0) (H := H') hq (qr_ue_s _ _ _) ht h
  rw [qr_ue2, qr_dR0 nl'] at b
  have c := qr_refc (E := qr_ue E q 0) (H := H) (H' := H') (fun s i L hi => hr s i (fun z => nl' (z ▸ L)) hi) h
  omega
theorem qt_shr {E : Nat → Nat} {H : Nat → Int32} {q t : Nat} (P : qr_PI E H) (hq : q < 20) (h0 : E q = 0) (L : qr_Lv E t) : qr_PI (qr_ue E q (t + 1)) H ∧ ∀ h, qr_ref (qr_ue E q (t + 1)) H h = qr_ref E H h + qs_b t h := by
  have ht := qr_Lt P L
  refine ⟨qr_PIu hq P ht (P.2 t L) ?_, fun h => ?_⟩
  · intro s i Ls hi e
    have Ls' : qr_Lv E s := Ls.elim (fun a => a) (fun a => a ▸ L)
    obtain ⟨p, hp, ep⟩ := L
    have := (P.2 s Ls' i hi).2.2 p hp (by rw [ep, e])
    omega
  · have a := qr_refE (H := H) hq h0 ht h
    rw [qr_dR1 L] at a
    omega
/-- one entry of a table of the active image alone -/
theorem qt_cell {E : Nat → Nat} {H H' : Nat → Int32} {q t k w : Nat} (P : qr_PI E H) (hq : q < 20) (hE : E q = t + 1) (h1 : qr_nE E t = 1) (hk : k < 4) (hw : w ≤ 128) (hwE : ∀ p, p < 20 → E p = w → w = 0) (hs : H' (t * 4 + k) = nI w) (hr : ∀ s i, qr_Lv E s → i < 4 → (s ≠ t ∨ i ≠ k) → H' (s * 4 + i) = H (s * 4 + i)) : qr_PI E H' ∧ (∀ h, qr_ref E H' h + qs_b (qr_T H (t * 4 + k)) (h + 1) = qr_ref E H h + qs_b w (h + 1)) ∧ (∀ v c, v < 5 → c < 16 → (v * 4 + c / 4 ≠ q ∨ c % 4 ≠ k) → qv_de E H' v c = qv_de E H v c) ∧ (∀ v c, v * 4 + c / 4 = q → c % 4 = k → qv_de E H' v c = w) := by
  have L : qr_Lv E t := ⟨q, hq, hE⟩
  have ht := qr_Lt P L
  have hT : qr_T H' (t * 4 + k) = w := qr_Tn hs (by omega)
  refine ⟨⟨P.1, fun s Ls i hi => ?_⟩, fun h => ?_, fun v c hv hc hn => ?_, fun v c e1 e2 => ?_⟩
  · by_cases z : s = t ∧ i = k
    · rw [z.1, z.2, hT]
      exact ⟨hs, hw, hwE⟩
    · have e := hr s i Ls hi (by omega)
      rw [qr_Tc e, e]
      exact P.2 s Ls i hi
  · have a := qr_refC (H := H) (H' := H') L ht hk hr h
    rw [hT] at a
    exact a
  · have hp : v * 4 + c / 4 < 20 := by omega
    by_cases y : E (v * 4 + c / 4) = 0
    · rw [qv_de0 y, qv_de0 y]
    · have e : E (v * 4 + c / 4) = (E (v * 4 + c / 4) - 1) + 1 := by omega
      rw [qv_det e, qv_det e]
      refine qr_Tc (hr _ _ ⟨_, hp, e⟩ (by omega) ?_)
      by_cases z : E (v * 4 + c / 4) - 1 = t
      · right
        have u := qr_uniE h1 hp hq (by rw [e, z]) hE
        omega
      · exact Or.inl z
  · rw [← e1] at hE
    rw [qv_det hE, e2]
    exact hT
/-- a free cluster becomes the data of cluster c of the active image -/
theorem qt_dat {E : Nat → Nat} {H H' : Nat → Int32} {q c t d : Nat} (P : qr_PI E H) (hc : c < 16) (hq : q = 16 + c / 4) (hE : E q = t + 1) (h1 : qr_nE E t = 1) (hd : d < 128) (h0 : qr_ref E H d = 0) (hp : H' (t * 4 + c % 4) = nI (d + 1)) (hr : ∀ s i, s ≠ d → i < 4 → (s ≠ t ∨ i ≠ c % 4) → H' (s * 4 + i) = H (s * 4 + i)) : qr_PI E H' ∧ (∀ h, qr_ref E H' h + qs_b (qr_T H (t * 4 + c % 4)) (h + 1) = qr_ref E H h + qs_b d h) ∧ (∀ v c', v < 5 → c' < 16 → (v ≠ 4 ∨ c' ≠ c) → qv_S E H E H' v c') ∧ qr_ref E H' d = 1 ∧ qv_de E H' 4 c = d + 1 := by
  have nl : ¬ qr_Lv E d := qr_free h0
  have hq' : q < 20 := by omega
  have hk : c % 4 < 4 := by omega
  have L : qr_Lv E t := ⟨q, hq', hE⟩
  have R := qt_cell (w := d + 1) (k := c % 4) P hq' hE h1 hk (by omega) (fun p hp e => absurd ⟨p, hp, e⟩ nl) hp (fun s i Ls hi hn => hr s i (fun z => nl (z ▸ Ls)) hi hn)
  obtain ⟨R1, R2, R3, R4⟩ := R
  have R2' : ∀ h, qr_ref E H' h + qs_b (qr_T H (t * 4 + c % 4)) (h + 1) = qr_ref E H h + qs_b d h := by
    intro h
    have := R2 h
    rw [qs_bs] at this
    exact this
  refine ⟨R1, R2', fun v c' hv hc' hn => ⟨R3 v c' hv hc' (by omega), fun d' hd' i hi => ?_⟩, ?_, R4 4 c (by omega) rfl⟩
  · obtain ⟨s, es, et⟩ := qv_ex hd'
    have Ls : qr_Lv E s := ⟨_, by omega, es⟩
    have hk' : c' % 4 < 4 := by omega
    refine hr d' i ?_ hi (Or.inl ?_)
    · intro z
      rw [z] at et
      exact qr_freeT P h0 Ls hk' et
    · intro z
      have := (P.2 s Ls _ hk').2.2 q hq' (by rw [hE, et, z])
      omega
  · have a := R2' d
    have b : qr_T H (t * 4 + c % 4) ≠ d + 1 := qr_freeT P h0 L hk
    rw [qs_b0 b, qs_b1 rfl] at a
    omega
/-- the entry of cluster c of the active image goes -/
theorem qt_dis {E : Nat → Nat} {H : Nat → Int32} {q c t : Nat} (P : qr_PI E H) (hc : c < 16) (hq : q = 16 + c / 4) (hE : E q = t + 1) (h1 : qr_nE E t = 1) : qr_PI E (upd H (t * 4 + c % 4) 0) ∧ (∀ h, qr_ref E (upd H (t * 4 + c % 4) 0) h + qs_b (qr_T H (t * 4 + c % 4)) (h + 1) = qr_ref E H h) ∧ (∀ v c', v < 5 → c' < 16 → (v ≠ 4 ∨ c' ≠ c) → qv_S E H E (upd H (t * 4 + c % 4) 0) v c') ∧ qv_de E (upd H (t * 4 + c % 4) 0) 4 c = 0 := by
  have hq' : q < 20 := by omega
  have hk : c % 4 < 4 := by omega
  have L : qr_Lv E t := ⟨q, hq', hE⟩
  have hu : ∀ j, j ≠ t * 4 + c % 4 → upd H (t * 4 + c % 4) 0 j = H j := fun j hj => if_neg hj
  have hs : upd H (t * 4 + c % 4) 0 (t * 4 + c % 4) = nI 0 := if_pos rfl
  have R := qt_cell (w := 0) (k := c % 4) P hq' hE h1 hk (by omega) (fun p hp e => rfl) hs (fun s i Ls hi hn => hu _ (by omega))
  obtain ⟨R1, R2, R3, R4⟩ := R
  refine ⟨R1, fun h => ?_, fun v c' hv hc' hn => ⟨R3 v c' hv hc' (by omega), fun d' hd' i hi => ?_⟩, R4 4 c (by omega) rfl⟩
  · have := R2 h
    rw [qs_b0 (a := 0) (b := h + 1) (by omega)] at this
    exact this
  · obtain ⟨s, es, et⟩ := qv_ex hd'
    have Ls : qr_Lv E s := ⟨_, by omega, es⟩
    have hk' : c' % 4 < 4 := by omega
    refine hu _ ?_
    have : d' ≠ t := by
      intro z
      have := (P.2 s Ls _ hk').2.2 q hq' (by rw [hE, et, z])
      omega
    omega
/-- a word of the data cluster of the active image alone -/
theorem qt_sto {E : Nat → Nat} {H : Nat → Int32} {q c t d j : Nat} {x : Int32} (P : qr_PI E H) (hc : c < 16) (hq : q = 16 + c / 4) (hE : E q = t + 1) (h1 : qr_nE E t = 1) (hT : qr_T H (t * 4 + c % 4) = d + 1) (hd : qr_ref E H d = 1) (hj : j < 4) : qr_PI E (upd H (d * 4 + j) x) ∧ (∀ h, qr_ref E (upd H (d * 4 + j) x) h = qr_ref E H h) ∧ (∀ v c', v < 5 → c' < 16 → (v ≠ 4 ∨ c' ≠ c) → qv_S E H E (upd H (d * 4 + j) x) v c') ∧ qv_de E (upd H (d * 4 + j) x) 4 c = d + 1 := by
  have hq' : q < 20 := by omega
  have hk : c % 4 < 4 := by omega
  have L : qr_Lv E t := ⟨q, hq', hE⟩
  have hu : ∀ y, y ≠ d * 4 + j → upd H (d * 4 + j) x y = H y := fun y hy => if_neg hy
  have nd : ¬ qr_Lv E d := by
    intro ⟨p, hp, ep⟩
    have := (P.2 t L _ hk).2.2 p hp (by rw [ep, hT])
    omega
  have hr : ∀ s i, qr_Lv E s → i < 4 → upd H (d * 4 + j) x (s * 4 + i) = H (s * 4 + i) := by
    intro s i Ls hi
    have : s ≠ d := fun z => nd (z ▸ Ls)
    exact hu _ (by omega)
  have de : ∀ v c', v < 5 → c' < 16 → qv_de E (upd H (d * 4 + j) x) v c' = qv_de E H v c' := by
    intro v c' hv hc'
    by_cases y : E (v * 4 + c' / 4) = 0
    · rw [qv_de0 y, qv_de0 y]
    · have e : E (v * 4 + c' / 4) = (E (v * 4 + c' / 4) - 1) + 1 := by omega
      rw [qv_det e, qv_det e]
      exact qr_Tc (hr _ _ ⟨_, by omega, e⟩ (by omega))
  refine ⟨qr_PIc hr P, fun h => qr_refc hr h, fun v c' hv hc' hn => ⟨de v c' hv hc', fun d' hd' i hi => ?_⟩, ?_⟩
  · obtain ⟨s, es, et⟩ := qv_ex hd'
    have hp : v * 4 + c' / 4 < 20 := by omega
    have Ls : qr_Lv E s := ⟨_, hp, es⟩
    have hk' : c' % 4 < 4 := by omega
    refine hu _ ?_
    have : d' ≠ d := by
      intro z
      rw [z] at et
      have u := qr_uniT P hd Ls L hk' hk et hT
      have w := qr_uniE h1 hp hq' (by rw [es, u.1]) hE
      omega
    omega
  · rw [de 4 c (by omega) hc]
    have e : E (4 * 4 + c / 4) = t + 1 := by
      have : 4 * 4 + c / 4 = q := by omega
      rw [this]; exact hE
    rw [qv_det e]
    exact hT
end
section
theorem qi_ue (E : Nat → Nat) (q x : Nat) : upd (fun p => nI (E p)) q (nI x) = fun p => nI (qr_ue E q x p) := by
  funext p
  by_cases e : p = q
  · rw [e]
    exact pk_us.trans (congrArg nI (qr_ue_s E q x).symm)
  · exact (pk_un e).trans (congrArg nI (qr_ue_n e).symm)
theorem qi_inc {r r' : Nat → Nat} {t : Nat} {x : Int32} (hx : x = nI (r t) + 1) (e : ∀ h, r' h = r h + qs_b t h) : upd (fun h => nI (r h)) t x = fun h => nI (r' h) := by
  funext h
  by_cases z : h = t
  · rw [z]
    refine pk_us.trans ?_
    show x = nI (r' t)
    rw [hx, e t, qs_b1 rfl, nI_1]
  · refine (pk_un z).trans ?_
    show nI (r h) = nI (r' h)
    rw [e h, qs_b0 (fun y => z y.symm), Nat.add_zero]
theorem qi_dec {r r' : Nat → Nat} {t : Nat} {x : Int32} (hx : x = nI (r t) - 1) (e : ∀ h, r h = r' h + qs_b t h) : upd (fun h => nI (r h)) t x = fun h => nI (r' h) := by
  funext h
  by_cases z : h = t
  · rw [z]
    refine pk_us.trans ?_
    show x = nI (r' t)
    rw [hx, e t, qs_b1 rfl, nI_pred]
  · refine (pk_un z).trans ?_
    show nI (r h) = nI (r' h)
    rw [e h, qs_b0 (fun y => z y.symm), Nat.add_zero]
theorem qi_new {r r' : Nat → Nat} {t : Nat} (h0 : r t = 0) (e : ∀ h, r' h = r h + qs_b t h) : upd (fun h => nI (r h)) t 1 = fun h => nI (r' h) := by
  refine qi_inc ?_ e
  rw [h0, nI_0]
  rfl
/-- the bits of the mask -/
theorem qb_1shl : ∀ n, n < 32 → ∀ i, i < 32 → bt ((1 : Int32) <<< (nI n &&& 31)) i = decide (i = n) := by decide +kernel
theorem qb_1 : ∀ i, i < 32 → bt (1 : Int32) i = decide (i = 0) := by decide +kernel
theorem qb_low (x : Int32) : (x &&& 1) = 0 ↔ bt x 0 = false := by
  constructor
  · intro h
    have a := b_and x 1 0
    rw [h, b_0, qb_1 0 (by omega), decide_eq_true rfl, Bool.and_true] at a
    exact a.symm
  · intro h
    apply b_ext
    intro i hi
    rw [b_and, b_0, qb_1 i hi]
    by_cases z : i = 0
    · rw [z, h]; rfl
    · rw [decide_eq_false z, Bool.and_false]
theorem qb_at (M : Int32) (p : Nat) (hp : p < 32) : ((M.toUInt32 >>> ((nI p).toUInt32 &&& Int32.toUInt32 31)).toInt32 &&& 1) = 0 ↔ bt M p = false := by
  rw [qb_low, b_ushr p hp M 0, Nat.add_zero]
/-- the first entry that names its table -/
def qk_F (E : Nat → Nat) (p : Nat) : Prop := E p ≠ 0 ∧ ∀ j, j < p → E j ≠ E p
def qk_w (E : Nat → Nat) (f : Nat → Nat) (p : Nat) : Nat := if E p = 0 then 0 else if qs_sm (fun j => qs_b (E j) (E p)) p = 0 then f (E p - 1) else 0
def qk_M (E : Nat → Nat) (n : Nat) (M : Int32) : Prop := ∀ p, p < 32 → (bt M p = true ↔ (p < n ∧ qk_F E p))
theorem qk_w1 {E : Nat → Nat} {f : Nat → Nat} {p : Nat} (h : qk_F E p) : qk_w E f p = f (E p - 1) := by
  have a : qs_sm (fun j => qs_b (E j) (E p)) p = 0 := qs_zero p (fun j hj => qs_b0 (h.2 j hj))
  unfold qk_w
  rw [if_neg h.1, if_pos a]
theorem qk_w0 {E : Nat → Nat} {f : Nat → Nat} {p : Nat} (h : ¬ qk_F E p) : qk_w E f p = 0 := by
  unfold qk_w
  by_cases z : E p = 0
  · rw [if_pos z]
  · rw [if_neg z]
    by_cases y : qs_sm (fun j => qs_b (E j) (E p)) p = 0
    · exfalso
      apply h
      refine ⟨z, fun j hj e => ?_⟩
      have a : qs_b (E j) (E p) ≤ qs_sm (fun j => qs_b (E j) (E p)) p := qs_ge (f := fun j => qs_b (E j) (E p)) p hj
      rw [qs_b1 e] at a
      omega
    · rw [if_neg y]
theorem qk_conv {E : Nat → Nat} (f : Nat → Nat) (hE : ∀ p, E p ≤ 128) : ∀ n : Nat, qs_sm (fun p => qk_w E f p) n = qs_sm (fun t => if 0 < qs_sm (fun p => qs_b (E p) (t + 1)) n then f t else 0) 128 := by
  intro n
  induction n with
  | zero =>
    refine (qs_zero (f := fun t => if 0 < qs_sm (fun p => qs_b (E p) (t + 1)) 0 then f t else 0) 128 (fun t _ => ?_)).symm
    exact if_neg (Nat.lt_irrefl 0)
  | succ n ih =>
    show qs_sm (fun p => qk_w E f p) n + qk_w E f n = qs_sm (fun t => if 0 < qs_sm (fun p => qs_b (E p) (t + 1)) n + qs_b (E n) (t + 1) then f t else 0) 128
    rw [ih]
    by_cases F : qk_F E n
    · have e : E n = (E n - 1) + 1 := by have := F.1; omega
      have ht : E n - 1 < 128 := by have := hE n; have := F.1; omega
      have z : qs_sm (fun p => qs_b (E p) ((E n - 1) + 1)) n = 0 := qs_zero n (fun j hj => qs_b0 (by rw [← e]; exact F.2 j hj))
      have a := qs_one (f := fun t => if 0 < qs_sm (fun p => qs_b (E p) (t + 1)) n + qs_b (E n) (t + 1) then f t else 0) (g := fun t => if 0 < qs_sm (fun p => qs_b (E p) (t + 1)) n then f t else 0) (k := E n - 1) 128 ht (fun t _ hn => by
        show (if 0 < qs_sm (fun p => qs_b (E p) (t + 1)) n + qs_b (E n) (t + 1) then f t else 0) = (if 0 < qs_sm (fun p => qs_b (E p) (t + 1)) n then f t else 0)
        rw [qs_b0 (a := E n) (b := t + 1) (by omega), Nat.add_zero])
      have b : (if 0 < qs_sm (fun p => qs_b (E p) ((E n - 1) + 1)) n + qs_b (E n) ((E n - 1) + 1) then f (E n - 1) else 0) = f (E n - 1) := by
        rw [qs_b1 e]
        exact if_pos (Nat.succ_pos _)
      have c : (if 0 < qs_sm (fun p => qs_b (E p) ((E n - 1) + 1)) n then f (E n - 1) else 0) = 0 := by
        rw [z]
        exact if_neg (Nat.lt_irrefl 0)
      have a' : qs_sm (fun t => if 0 < qs_sm (fun p => qs_b (E p) (t + 1)) n + qs_b (E n) (t + 1) then f t else 0) 128 + (if 0 < qs_sm (fun p => qs_b (E p) ((E n - 1) + 1)) n then f (E n - 1) else 0) = qs_sm (fun t => if 0 < qs_sm (fun p => qs_b (E p) (t + 1)) n then f t else 0) 128 + (if 0 < qs_sm (fun p => qs_b (E p) ((E n - 1) + 1)) n + qs_b (E n) ((E n - 1) + 1) then f (E n - 1) else 0) := a
      rw [b, c, Nat.add_zero] at a'
      rw [qk_w1 F, a']
    · rw [qk_w0 F, Nat.add_zero]
      refine qs_congr 128 (fun t _ => ?_)
      show (if 0 < qs_sm (fun p => qs_b (E p) (t + 1)) n then f t else 0) = (if 0 < qs_sm (fun p => qs_b (E p) (t + 1)) n + qs_b (E n) (t + 1) then f t else 0)
      by_cases e : E n = t + 1
      · have ex : ∃ j, j < n ∧ E j = E n := by
          by_cases y : ∃ j, j < n ∧ E j = E n
          · exact y
          · exact absurd ⟨by omega, fun j hj ej => y ⟨j, hj, ej⟩⟩ F
        obtain ⟨j, hj, ej⟩ := ex
        have a : qs_b (E j) (t + 1) ≤ qs_sm (fun p => qs_b (E p) (t + 1)) n := qs_ge (f := fun p => qs_b (E p) (t + 1)) n hj
        rw [qs_b1 (ej.trans e)] at a
        rw [if_pos (by omega), if_pos (by omega)]
      · have y := qs_b0 e
        simp only [y, Nat.add_zero]
theorem qk_ref {E : Nat → Nat} {H : Nat → Int32} (hE : ∀ p, E p ≤ 128) (h : Nat) : qs_sm (fun p => qs_b (E p) (h + 1) + qk_w E (fun t => qr_nT H t h) p) 20 = qr_ref E H h := by
  have a := qs_add (fun p => qs_b (E p) (h + 1)) (fun p => qk_w E (fun t => qr_nT H t h) p) 20
  have b : qs_sm (fun p => qk_w E (fun t => qr_nT H t h) p) 20 = qs_sm (fun t => qr_dR E H t h) 128 := qk_conv (fun t => qr_nT H t h) hE 20
  rw [b] at a
  exact a
theorem qk_M0 (E : Nat → Nat) : qk_M E 0 0 := by
  intro p _
  rw [b_0]
  constructor
  · intro h; exact absurd h (by decide)
  · intro h; exact absurd h.1 (Nat.not_lt_zero p)
theorem qk_Ms {E : Nat → Nat} {n : Nat} {M : Int32} (hn : n < 32) (h : qk_M E n M) (F : qk_F E n) : qk_M E (n + 1) (M ||| ((1 : Int32) <<< (nI n &&& 31))) := by
  intro p hp
  rw [b_or, qb_1shl n hn p hp]
  by_cases e : p = n
  · rw [decide_eq_true e, Bool.or_true]
    exact ⟨fun _ => ⟨by omega, by rw [e]; exact F⟩, fun _ => rfl⟩
  · rw [decide_eq_false e, Bool.or_false, h p hp]
    exact ⟨fun z => ⟨by omega, z.2⟩, fun z => ⟨by omega, z.2⟩⟩
theorem qk_Mn {E : Nat → Nat} {n : Nat} {M : Int32} (h : qk_M E n M) (F : ¬ qk_F E n) : qk_M E (n + 1) M := by
  intro p hp
  rw [h p hp]
  constructor
  · exact fun z => ⟨by omega, z.2⟩
  · intro z
    have : p ≠ n := fun e => F (e ▸ z.2)
    exact ⟨by omega, z.2⟩
end
section
/-- n words from o on -/
def qh_s (A : Nat → Int32) (o : Nat) (W : Nat → Int32) (n : Nat) : Nat → Int32 := fun j => if o ≤ j ∧ j < o + n then W (j - o) else A j
theorem qh_in {A W : Nat → Int32} {o n i : Nat} (h : i < n) : qh_s A o W n (o + i) = W i := by
  unfold qh_s
  rw [if_pos ⟨by omega, by omega⟩, Nat.add_sub_cancel_left]
theorem qh_out {A W : Nat → Int32} {o n j : Nat} (h : j < o ∨ o + n ≤ j) : qh_s A o W n j = A j := by
  unfold qh_s
  exact if_neg (by omega)
theorem qh_0 (A W : Nat → Int32) (o : Nat) : qh_s A o W 0 = A := by
  funext j
  exact qh_out (by omega)
theorem qh_step {A W : Nat → Int32} {o n : Nat} {x : Int32} (hx : x = W n) : upd (qh_s A o W n) (o + n) x = qh_s A o W (n + 1) := by
  funext j
  by_cases e : j = o + n
  · rw [e, qh_in (Nat.lt_succ_self n), hx]
    exact pk_us
  · refine (pk_un e).trans ?_
    by_cases z : j < o ∨ o + n ≤ j
    · rw [qh_out z, qh_out (by omega)]
    · obtain ⟨i, rfl⟩ : ∃ i, j = o + i := ⟨j - o, by omega⟩
      rw [qh_in (by omega), qh_in (by omega)]
theorem qh_cong {A W W' : Nat → Int32} {o n : Nat} (h : ∀ i, i < n → W i = W' i) : qh_s A o W n = qh_s A o W' n := by
  funext j
  by_cases z : j < o ∨ o + n ≤ j
  · rw [qh_out z, qh_out z]
  · obtain ⟨i, rfl⟩ : ∃ i, j = o + i := ⟨j - o, by omega⟩
    rw [qh_in (by omega), qh_in (by omega), h i (by omega)]
theorem qv_Cw {H : Nat → Int32} {d : Nat} {f f' : Int32} {w w' : Nat → Int32} (hf : f' = f) (h : ∀ i, i < 4 → w' i = w i) (C : qv_C H d f w) : qv_C H d f' w' := by
  rw [hf]
  cases C with
  | inl a => exact Or.inl a
  | inr a =>
    obtain ⟨e, he, h1, hw⟩ := a
    exact Or.inr ⟨e, he, h1, fun i hi => by rw [h i hi]; exact hw i hi⟩
theorem qv_Vf {E : Nat → Nat} {H : Nat → Int32} {v : Nat} {fl wd fl' wd' : Nat → Int32} (hf : ∀ c, c < 16 → fl' c = fl c) (hw : ∀ a, a < 64 → wd' a = wd a) (V : qv_V E H v fl wd) : qv_V E H v fl' wd' :=
  fun c hc => qv_Cw (hf c hc) (fun i hi => hw (c * 4 + i) (by omega)) (V c hc)
theorem qv_f01 {E : Nat → Nat} {H : Nat → Int32} {v : Nat} {fl wd : Nat → Int32} (V : qv_V E H v fl wd) {c : Nat} (hc : c < 16) : fl c = 0 ∨ fl c = 1 := by
  cases V c hc with
  | inl a => exact Or.inl a.2
  | inr a => obtain ⟨_, _, h, _⟩ := a; exact Or.inr h
def qz_D (l : Nat) (x : Nat → Int32) (E : Nat → Nat) : Prop := ∀ p, p < 20 → E p ≠ 0 → p % 4 < l ∧ x (p / 4) = 1
def qz_W (E : Nat → Nat) (H aA aD sE sA sD : Nat → Int32) : Prop := qv_V E H 4 aA aD ∧ ∀ s, s < 4 → sE s = 1 → qv_V E H s (fun c => sA (s * 16 + c)) (fun a => sD (s * 64 + a))
theorem qz_cell {E E' : Nat → Nat} {H H' aA aD sE sA sD aA' aD' : Nat → Int32} {c : Nat} (hc : c < 16) (W : qz_W E H aA aD sE sA sD) (S : ∀ v c', v < 5 → c' < 16 → (v ≠ 4 ∨ c' ≠ c) → qv_S E H E' H' v c') (hA : ∀ c', c' < 16 → c' ≠ c → aA' c' = aA c') (hD : ∀ c', c' < 16 → c' ≠ c → ∀ i, i < 4 → aD' (c' * 4 + i) = aD (c' * 4 + i)) (C : qv_C H' (qv_de E' H' 4 c) (aA' c) (fun i => aD' (c * 4 + i))) : qz_W E' H' aA' aD' sE sA sD := by
  refine ⟨fun c' hc' => ?_, fun s hs h1 => ?_⟩
  · by_cases e : c' = c
    · rw [e]; exact C
    · exact qv_Cw (hA c' hc' e) (hD c' hc' e) (qv_Ck (S 4 c' (by omega) hc' (Or.inr e)) (W.1 c' hc'))
  · exact qv_Vk (fun c' hc' => S s c' (by omega) hc' (Or.inl (by omega))) (W.2 s hs h1)
theorem qz_keep {E E' : Nat → Nat} {H H' aA aD sE sA sD : Nat → Int32} (W : qz_W E H aA aD sE sA sD) (S : ∀ v c', v < 5 → c' < 16 → qv_S E H E' H' v c') : qz_W E' H' aA aD sE sA sD :=
  ⟨qv_Vk (fun c hc => S 4 c (by omega) hc) W.1, fun s hs h1 => qv_Vk (fun c hc => S s c (by omega) hc) (W.2 s hs h1)⟩
theorem qz_create {E E' : Nat → Nat} {H aA aD sE sA sD : Nat → Int32} {s : Nat} (hs : s < 4) (W : qz_W E H aA aD sE sA sD) (h0 : ∀ j, j < 4 → E' (s * 4 + j) = E (4 * 4 + j)) (h1 : ∀ p, (p < s * 4 ∨ s * 4 + 4 ≤ p) → E' p = E p) : qz_W E' H aA aD (upd sE s 1) (qh_s sA (s * 16) aA 16) (qh_s sD (s * 64) aD 64) := by
  refine ⟨qv_Vc (fun j hj => h1 _ (by omega)) W.1, fun s' hs' e1 => ?_⟩
  by_cases e : s' = s
  · rw [e]
    refine qv_Vf (fun c hc => ?_) (fun a ha => ?_) (qv_Vc h0 W.1)
    · exact qh_in hc
    · exact qh_in ha
  · have e2 : sE s' = 1 := (pk_un e).symm.trans e1
    refine qv_Vf (fun c hc => ?_) (fun a ha => ?_) (qv_Vc (fun j hj => h1 _ (by omega)) (W.2 s' hs' e2))
    · exact qh_out (by omega)
    · exact qh_out (by omega)
theorem qz_delete {E E' : Nat → Nat} {H aA aD sE sA sD : Nat → Int32} {s : Nat} (hs : s < 4) (W : qz_W E H aA aD sE sA sD) (h1 : ∀ p, (p < s * 4 ∨ s * 4 + 4 ≤ p) → E' p = E p) : qz_W E' H aA aD (upd sE s 0) sA sD := by
  refine ⟨qv_Vc (fun j hj => h1 _ (by omega)) W.1, fun s' hs' e1 => ?_⟩
  by_cases e : s' = s
  · rw [e] at e1
    exact absurd (pk_us.symm.trans e1) (by decide)
  · have e2 : sE s' = 1 := (pk_un e).symm.trans e1
    exact qv_Vc (fun j hj => h1 _ (by omega)) (W.2 s' hs' e2)
theorem qz_apply {E E' : Nat → Nat} {H aA aD sE sA sD : Nat → Int32} {s : Nat} (hs : s < 4) (hx : sE s = 1) (W : qz_W E H aA aD sE sA sD) (h0 : ∀ j, j < 4 → E' (4 * 4 + j) = E (s * 4 + j)) (h1 : ∀ p, p < 16 → E' p = E p) : qz_W E' H (qh_s aA 0 (fun c => sA (s * 16 + c)) 16) (qh_s aD 0 (fun a => sD (s * 64 + a)) 64) sE sA sD := by
  refine ⟨?_, fun s' hs' e1 => qv_Vc (fun j hj => h1 _ (by omega)) (W.2 s' hs' e1)⟩
  refine qv_Vf (fun c hc => ?_) (fun a ha => ?_) (qv_Vc h0 (W.2 s hs hx))
  · have := qh_in (A := aA) (o := 0) (W := fun c => sA (s * 16 + c)) hc
    rw [Nat.zero_add] at this
    exact this
  · have := qh_in (A := aD) (o := 0) (W := fun a => sD (s * 64 + a)) ha
    rw [Nat.zero_add] at this
    exact this
theorem qz_commit {E E' : Nat → Nat} {H aA aD sE sA sD : Nat → Int32} (W : qz_W E H aA aD sE sA sD) (h0 : ∀ j, j < 4 → E' (4 * 4 + j) = 0) (h1 : ∀ p, p < 16 → E' p = E p) : qz_W E' H (qh_s aA 0 (fun _ => 0) 16) aD sE sA sD := by
  refine ⟨qv_Vz h0 (fun c hc => ?_), fun s' hs' e1 => qv_Vc (fun j hj => h1 _ (by omega)) (W.2 s' hs' e1)⟩
  have := qh_in (A := aA) (o := 0) (W := fun _ => 0) hc
  rw [Nat.zero_add] at this
  exact this
theorem qz_Dcr {l : Nat} {x : Nat → Int32} {E E' : Nat → Nat} {s f : Nat} (hf : f < 5) (D : qz_D l x E) (h0 : ∀ j, j < 4 → E' (s * 4 + j) = E (f * 4 + j)) (h1 : ∀ p, (p < s * 4 ∨ s * 4 + 4 ≤ p) → E' p = E p) : qz_D l (upd x s 1) E' := by
  intro p hp hn
  by_cases z : p < s * 4 ∨ s * 4 + 4 ≤ p
  · rw [h1 p z] at hn
    have a := D p hp hn
    have e : p / 4 ≠ s := by omega
    exact ⟨a.1, (pk_un e).trans a.2⟩
  · obtain ⟨j, rfl⟩ : ∃ j, p = s * 4 + j := ⟨p - s * 4, by omega⟩
    rw [h0 j (by omega)] at hn
    have a := (D (f * 4 + j) (by omega) hn).1
    have e : (s * 4 + j) / 4 = s := by omega
    rw [e]
    exact ⟨by omega, pk_us⟩
theorem qz_Dz {l : Nat} {x x' : Nat → Int32} {E E' : Nat → Nat} {s : Nat} (D : qz_D l x E) (hx : ∀ s', s' ≠ s → x' s' = x s') (h0 : ∀ j, j < 4 → E' (s * 4 + j) = 0) (h1 : ∀ p, (p < s * 4 ∨ s * 4 + 4 ≤ p) → E' p = E p) : qz_D l x' E' := by
  intro p hp hn
  by_cases z : p < s * 4 ∨ s * 4 + 4 ≤ p
  · rw [h1 p z] at hn
    have a := D p hp hn
    have e : p / 4 ≠ s := by omega
    exact ⟨a.1, (hx _ e).trans a.2⟩
  · obtain ⟨j, rfl⟩ : ∃ j, p = s * 4 + j := ⟨p - s * 4, by omega⟩
    exact absurd (h0 j (by omega)) hn
theorem qz_upd1 {x : Nat → Int32} {s : Nat} (h : x s = 1) : upd x s 1 = x := by
  funext j
  by_cases e : j = s
  · rw [e, h]; exact pk_us
  · exact pk_un e
theorem qz_D1 {l q : Nat} {x : Nat → Int32} {E E' : Nat → Nat} (D : qz_D l x E) (hq : q % 4 < l ∧ x (q / 4) = 1) (h1 : ∀ p, p ≠ q → E' p = E p) : qz_D l x E' := by
  intro p hp hn
  by_cases e : p = q
  · rw [e]; exact hq
  · rw [h1 p e] at hn
    exact D p hp hn
/-- the relation of the two states, without their tuples -/
def qz_R (l : Nat) (E : Nat → Nat) (H x aA aD sE sA sD : Nat → Int32) : Prop := (1 ≤ l ∧ l ≤ 4) ∧ qr_PI E H ∧ qz_D l x E ∧ x 4 = 1 ∧ (∀ s, s < 4 → x s = sE s ∧ (sE s = 0 ∨ sE s = 1)) ∧ qz_W E H aA aD sE sA sD
theorem qz_lv0 (t : Nat) : ¬ qr_Lv (fun _ => 0) t := by
  intro ⟨p, _, e⟩
  have e' : 0 = t + 1 := e
  omega
theorem qz_ref0 (H : Nat → Int32) (h : Nat) : qr_ref (fun _ => 0) H h = 0 := by
  have a : qs_sm (fun s => qr_dR (fun _ => 0) H s h) 128 = 0 := qs_zero 128 (fun s _ => qr_dR0 (qz_lv0 s))
  have b := qr_nE0 (qz_lv0 h)
  unfold qr_ref
  omega
theorem qz_init {l : Nat} {x : Nat → Int32} (hl : 1 ≤ l ∧ l ≤ 4) (h4 : x 4 = 1) (h0 : ∀ s, s < 4 → x s = 0) : qz_R l (fun _ => 0) (fun _ => 0) x (fun _ => 0) (fun _ => 0) (fun _ => 0) (fun _ => 0) (fun _ => 0) := by
  refine ⟨hl, ⟨fun _ => Nat.zero_le _, fun t L => absurd L (qz_lv0 t)⟩, fun p _ h => absurd rfl h, h4, fun s hs => ⟨h0 s hs, Or.inl rfl⟩, qv_Vz (fun _ _ => rfl) (fun _ _ => rfl), fun s _ h => ?_⟩
  have h' : (0 : Int32) = 1 := h
  exact absurd h' (by decide)
theorem qz_cnt0 : (fun _ => (0 : Int32)) = fun h => nI (qr_ref (fun _ => 0) (fun _ => (0 : Int32)) h) := by
  funext h
  rw [qz_ref0]
  rfl
end
section
theorem qs_mono {f : Nat → Nat} {i : Nat} : ∀ n : Nat, i ≤ n → qs_sm f i ≤ qs_sm f n := by
  intro n
  induction n with
  | zero => intro h; rw [Nat.le_zero.mp h]; exact Nat.le_refl _
  | succ n ih =>
    intro h
    by_cases e : i = n + 1
    · rw [e]; exact Nat.le_refl _
    · have a := ih (by omega)
      show qs_sm f i ≤ qs_sm f n + f n
      omega
theorem qr_first (E : Nat → Nat) (H : Nat → Int32) : ∃ k, k < 127 ∧ qr_ref E H k = 0 ∧ ∀ j, j < k → qr_ref E H j ≠ 0 := by
  obtain ⟨k, hk, hl⟩ := pk_least (fun h => h < 127 ∧ qr_ref E H h = 0) (qr_room E H)
  exact ⟨k, hk.1, hk.2, fun j hj e => hl j hj ⟨by omega, e⟩⟩
/-- the namings of h among the first i entries of table t -/
def qr_p (H : Nat → Int32) (t h i : Nat) : Nat := qs_sm (fun i => qs_b (qr_T H (t * 4 + i)) (h + 1)) i
theorem qr_p0 (H : Nat → Int32) (t h : Nat) : qr_p H t h 0 = 0 := rfl
theorem qr_p4 (H : Nat → Int32) (t h : Nat) : qr_p H t h 4 = qr_nT H t h := rfl
theorem qr_ps (H : Nat → Int32) (t h i : Nat) : qr_p H t h (i + 1) = qr_p H t h i + qs_b (qr_T H (t * 4 + i)) (h + 1) := rfl
theorem qr_pz {H : Nat → Int32} {t i : Nat} (hT : qr_T H (t * 4 + i) = 0) (h : Nat) : qr_p H t h (i + 1) = qr_p H t h i := by
  rw [qr_ps, hT, qs_b0 (by omega), Nat.add_zero]
theorem qr_pw {H : Nat → Int32} {t i w : Nat} (hT : qr_T H (t * 4 + i) = w + 1) (h : Nat) : qr_p H t h (i + 1) = qr_p H t h i + qs_b w h := by
  rw [qr_ps, hT, qs_bs]
theorem qr_ple {H : Nat → Int32} {t h i : Nat} (hi : i ≤ 4) : qr_p H t h i ≤ qr_nT H t h := qs_mono 4 hi
theorem qi_pinc {r : Nat → Nat} {H : Nat → Int32} {t i w : Nat} {x : Int32} (hT : qr_T H (t * 4 + i) = w + 1) (hx : x = nI (r w + qr_p H t w i) + 1) : upd (fun h => nI (r h + qr_p H t h i)) w x = fun h => nI (r h + qr_p H t h (i + 1)) :=
  qi_inc (r := fun h => r h + qr_p H t h i) (r' := fun h => r h + qr_p H t h (i + 1)) hx (fun h => by
    show r h + qr_p H t h (i + 1) = r h + qr_p H t h i + qs_b w h
    rw [qr_pw hT]
    omega)
theorem qi_pinc0 {r : Nat → Nat} {H : Nat → Int32} {t i : Nat} (hT : qr_T H (t * 4 + i) = 0) : (fun h => nI (r h + qr_p H t h i)) = fun h => nI (r h + qr_p H t h (i + 1)) := by
  funext h
  rw [qr_pz hT]
theorem qi_pdec {r : Nat → Nat} {H : Nat → Int32} {t i w : Nat} {x : Int32} (hi : i < 4) (hr : ∀ h, qr_nT H t h ≤ r h) (hT : qr_T H (t * 4 + i) = w + 1) (hx : x = nI (r w - qr_p H t w i) - 1) : upd (fun h => nI (r h - qr_p H t h i)) w x = fun h => nI (r h - qr_p H t h (i + 1)) :=
  qi_dec (r := fun h => r h - qr_p H t h i) (r' := fun h => r h - qr_p H t h (i + 1)) hx (fun h => by
    show r h - qr_p H t h i = r h - qr_p H t h (i + 1) + qs_b w h
    have a := qr_ple (H := H) (t := t) (h := h) (i := i + 1) (by omega)
    have b := hr h
    rw [qr_pw hT] at a
    rw [qr_pw hT]
    omega)
theorem qi_pdec0 {r : Nat → Nat} {H : Nat → Int32} {t i : Nat} (hT : qr_T H (t * 4 + i) = 0) : (fun h => nI (r h - qr_p H t h i)) = fun h => nI (r h - qr_p H t h (i + 1)) := by
  funext h
  rw [qr_pz hT]
/-- an L1 entry is let go -/
theorem qt_go {E : Nat → Nat} {H : Nat → Int32} {q t : Nat} (P : qr_PI E H) (hq : q < 20) (hE : E q = t + 1) : (∀ h, qr_ref E H h = (qr_ref E H h - qs_b t h) + qs_b t h) ∧ qr_ref E H t - qs_b t t = qr_nE (qr_ue E q 0) t ∧ (qr_nE (qr_ue E q 0) t ≠ 0 → ∀ h, qr_ref E H h - qs_b t h = qr_ref (qr_ue E q 0) H h) ∧ (qr_nE (qr_ue E q 0) t = 0 → ∀ h, qr_nT H t h ≤ qr_ref E H h - qs_b t h ∧ qr_ref E H h - qs_b t h - qr_nT H t h = qr_ref (qr_ue E q 0) H h) := by
  have L : qr_Lv E t := ⟨q, hq, hE⟩
  have ht := qr_Lt P L
  obtain ⟨r1, r2⟩ := qt_rel (H := H) hq ht hE
  have r0 := qr_tref P L
  refine ⟨fun h => ?_, ?_, fun n h => ?_, fun n h => ?_⟩
  · by_cases e : t = h
    · rw [← e, qs_b1 rfl]; omega
    · rw [qs_b0 e]; omega
  · rw [qs_b1 rfl]; omega
  · have a := r2 h
    have Lt : qr_Lv (qr_ue E q 0) t := qr_lv.mp (by omega)
    rw [qr_dR1 Lt] at a
    omega
  · have a := r2 h
    have Lt : ¬ qr_Lv (qr_ue E q 0) t := fun L' => by
      have := qr_lv.mpr L'
      omega
    rw [qr_dR0 Lt] at a
    constructor
    · omega
    · omega
theorem qx_ix (a i : Nat) : nI a * 4 + nI i = nI (a * 4 + i) := by
  show nI a * nI 4 + nI i = nI (a * 4 + i)
  rw [pk_mul, nI_add]
theorem qx_d4 {a : Nat} (h : a < 2 ^ 31) : nI a / 4 = nI (a / 4) := pk_div (d := 4) h (by omega) (by omega)
theorem qx_r4 {a : Nat} (h : a < 2 ^ 31) : nI a - nI a / 4 * 4 = nI (a % 4) := pk_rem (d := 4) h (by omega) (by omega)
end
section
theorem qx_in {a i N : Nat} (h : a * 4 + i < N) (hN : N < 2 ^ 31) : vp_in (nI a * 4 + nI i) N := by
  rw [qx_ix]
  exact vp_in_nI h hN
theorem qx_cl {a i : Nat} (h : a * 4 + i < 2 ^ 31) : (nI a * 4 + nI i).toNatClampNeg = a * 4 + i := by
  rw [qx_ix]
  exact nI_clamp h
theorem qx_40 : ¬ (4 : Int32) = 0 := by decide
theorem qx_10 : ¬ (1 : Int32) = 0 := by decide
theorem qx_nb0 : narrow .boolean (.int 0) = .int 0 := by first | rfl | decide | exact lw_bz_n 0
theorem qx_nb1 : narrow .boolean (.int 1) = .int 1 := by first | rfl | decide | exact lw_bz_n 1
theorem qx_vb0 : vp_nar .boolean 0 = 0 := by first | rfl | decide
theorem qx_vb1 : vp_nar .boolean 1 = 1 := by first | rfl | decide
theorem qx_nb {f : Int32} (h : f = 0 ∨ f = 1) : narrow .boolean (.int f) = .int f := by
  cases h with
  | inl a => rw [a]; exact qx_nb0
  | inr a => rw [a]; exact qx_nb1
theorem qx_vb {f : Int32} (h : f = 0 ∨ f = 1) : vp_nar .boolean f = f := by
  cases h with
  | inl a => rw [a]; exact qx_vb0
  | inr a => rw [a]; exact qx_vb1
def qx_o (n : Nat) (x : Int32) : Prop := x < 0 ∨ nI n ≤ x
theorem qx_split (x : Int32) {n : Nat} (hn : n < 2 ^ 31) : qx_o n x ∨ ∃ a, a < n ∧ x = nI a := by
  rcases pk_ix x hn with h | h | h
  · exact Or.inl (Or.inl h)
  · exact Or.inl (Or.inr h)
  · exact Or.inr h
theorem qx_oc {n : Nat} {x : Int32} {B C : Prop} (h : qx_o n x) (b : B) : (x < 0 → B) ∧ (¬ x < 0 → ((nI n ≤ x → B) ∧ (¬ nI n ≤ x → C))) := by
  cases h with
  | inl h => exact br_t h b
  | inr h => exact br_c (fun _ => b) (fun _ => br_t h b)
theorem qx_ol {n : Nat} {x : Int32} {B C : Prop} (h : qx_o n x) (b : B) : (x < 0 → B) ∧ (¬ x < 0 → ((x < nI n → C) ∧ (¬ x < nI n → B))) := by
  cases h with
  | inl h => exact br_t h b
  | inr h => exact br_c (fun _ => b) (fun _ => br_f (Int32.not_lt.mpr h) b)
theorem qx_m16 (l : Nat) : nI l * 4 * 4 = nI (l * 16) := by
  show nI l * nI 4 * nI 4 = nI (l * 16)
  rw [pk_mul, pk_mul, Nat.mul_assoc]
theorem qx_m4 (l : Nat) : nI l * 4 = nI (l * 4) := pk_mul l 4
theorem qx_n16 (l : Nat) : 16 * nI l = nI (l * 16) := by
  show nI 16 * nI l = nI (l * 16)
  rw [pk_mul, Nat.mul_comm]
theorem qx_n4 (l : Nat) : 4 * nI l = nI (l * 4) := by
  show nI 4 * nI l = nI (l * 4)
  rw [pk_mul, Nat.mul_comm]
theorem qw_gw0 {post : Int32 → Prop} {l : Nat} {b e x H c : Nat → Int32} {p : Int32} (h : qx_o (l * 16) p) (k : post 0) : wpX_isGuestWord post (nI l, b, e, x, H, c) p := by
  unfold wpX_isGuestWord
  dsimp only
  rw [qx_m16]
  exact qx_oc h k
theorem qw_gw1 {post : Int32 → Prop} {l : Nat} {b e x H c : Nat → Int32} {a : Nat} (hl : l ≤ 4) (h : a < l * 16) (k : post 1) : wpX_isGuestWord post (nI l, b, e, x, H, c) (nI a) := by
  unfold wpX_isGuestWord
  dsimp only
  rw [qx_m16]
  exact br_f (nI_pos (by omega)) (br_f (nI_ge h (by omega)) k)
theorem qw_gc0 {post : Int32 → Prop} {l : Nat} {b e x H c : Nat → Int32} {p : Int32} (h : qx_o (l * 4) p) (k : post 0) : wpX_isGuestCluster post (nI l, b, e, x, H, c) p := by
  unfold wpX_isGuestCluster
  dsimp only
  rw [qx_m4]
  exact qx_oc h k
theorem qw_gc1 {post : Int32 → Prop} {l : Nat} {b e x H c : Nat → Int32} {a : Nat} (hl : l ≤ 4) (h : a < l * 4) (k : post 1) : wpX_isGuestCluster post (nI l, b, e, x, H, c) (nI a) := by
  unfold wpX_isGuestCluster
  dsimp only
  rw [qx_m4]
  exact br_f (nI_pos (by omega)) (br_f (nI_ge h (by omega)) k)
theorem qy_ba1 {post : Int32 → Prop} {l : Nat} {b aA aD sE sA sD : Nat → Int32} {p : Int32} (h : qx_o (l * 16) p) (k : post 1) : wpY_badAddr post (nI l, b, aA, aD, sE, sA, sD) p := by
  unfold wpY_badAddr
  dsimp only
  rw [qx_n16]
  exact qx_ol h k
theorem qy_ba0 {post : Int32 → Prop} {l : Nat} {b aA aD sE sA sD : Nat → Int32} {a : Nat} (hl : l ≤ 4) (h : a < l * 16) (k : post 0) : wpY_badAddr post (nI l, b, aA, aD, sE, sA, sD) (nI a) := by
  unfold wpY_badAddr
  dsimp only
  rw [qx_n16]
  exact br_f (nI_pos (by omega)) (br_t (nI_lt h (by omega)) k)
theorem qy_bc1 {post : Int32 → Prop} {l : Nat} {b aA aD sE sA sD : Nat → Int32} {p : Int32} (h : qx_o (l * 4) p) (k : post 1) : wpY_badCluster post (nI l, b, aA, aD, sE, sA, sD) p := by
  unfold wpY_badCluster
  dsimp only
  rw [qx_n4]
  exact qx_ol h k
theorem qy_bc0 {post : Int32 → Prop} {l : Nat} {b aA aD sE sA sD : Nat → Int32} {a : Nat} (hl : l ≤ 4) (h : a < l * 4) (k : post 0) : wpY_badCluster post (nI l, b, aA, aD, sE, sA, sD) (nI a) := by
  unfold wpY_badCluster
  dsimp only
  rw [qx_n4]
  exact br_f (nI_pos (by omega)) (br_t (nI_lt h (by omega)) k)
theorem qw_sl0 {post : Int32 → Prop} {u : SX} {p : Int32} (h : qx_o 4 p) (k : post 0) : wpX_isSlot post u p := by
  obtain ⟨l, b, e, x, H, c⟩ := u
  exact qx_oc (n := 4) h k
theorem qw_sl1 {post : Int32 → Prop} {u : SX} {s : Nat} (h : s < 4) (k : post 1) : wpX_isSlot post u (nI s) := by
  obtain ⟨l, b, e, x, H, c⟩ := u
  exact br_f (nI_pos (by omega)) (br_f (nI_ge (b := 4) h (by omega)) k)
theorem qw_hs0 {post : Int32 → Prop} {l : Int32} {b e x H c : Nat → Int32} {p : Int32} (h : qx_o 4 p ∨ ∃ s, s < 4 ∧ p = nI s ∧ x s = 0) (k : post 0) : wpX_holdsSnapshot post (l, b, e, x, H, c) p := by
  unfold wpX_holdsSnapshot
  dsimp only
  cases h with
  | inl h => exact qw_sl0 h (br_t rfl k)
  | inr h =>
    obtain ⟨s, hs, rfl, hx⟩ := h
    refine qw_sl1 hs (br_f qx_10 ⟨vp_in_nI (by omega) (by omega), br_t ?_ k⟩)
    rw [nI_clamp (by omega)]
    exact hx
theorem qw_hs1 {post : Int32 → Prop} {l : Int32} {b e x H c : Nat → Int32} {s : Nat} (h : s < 4) (hx : x s = 1) (k : post 1) : wpX_holdsSnapshot post (l, b, e, x, H, c) (nI s) := by
  unfold wpX_holdsSnapshot
  dsimp only
  refine qw_sl1 h (br_f qx_10 ⟨vp_in_nI (by omega) (by omega), br_f ?_ k⟩)
  rw [nI_clamp (by omega), hx]
  exact qx_10
theorem qy_bs1 {post : Int32 → Prop} {l : Int32} {b aA aD sE sA sD : Nat → Int32} {p : Int32} (h : qx_o 4 p ∨ ∃ s, s < 4 ∧ p = nI s ∧ sE s = 0) (k : post 1) : wpY_badSlot post (l, b, aA, aD, sE, sA, sD) p := by
  unfold wpY_badSlot
  dsimp only
  cases h with
  | inl h => exact qx_oc (n := 4) h k
  | inr h =>
    obtain ⟨s, hs, rfl, hx⟩ := h
    refine br_f (nI_pos (by omega)) (br_f (nI_ge (b := 4) hs (by omega)) ⟨vp_in_nI hs (by omega), br_t ?_ k⟩)
    rw [nI_clamp (by omega)]
    exact hx
theorem qy_bs0 {post : Int32 → Prop} {l : Int32} {b aA aD sE sA sD : Nat → Int32} {s : Nat} (h : s < 4) (hx : sE s = 1) (k : post 0) : wpY_badSlot post (l, b, aA, aD, sE, sA, sD) (nI s) := by
  unfold wpY_badSlot
  dsimp only
  refine br_f (nI_pos (by omega)) (br_f (nI_ge (b := 4) h (by omega)) ⟨vp_in_nI h (by omega), br_f ?_ k⟩)
  rw [nI_clamp (by omega), hx]
  exact qx_10
theorem qw_nh {post : Int32 → Prop} {u : SX} {w : Nat} (hw : w ≤ 128) (h0 : w = 0 → post 0) (h1 : ∀ d, w = d + 1 → post 1) : wpX_namesHostCluster post u (nI w) := by
  obtain ⟨l, b, e, x, H, c⟩ := u
  by_cases z : w = 0
  · refine br_t ?_ (h0 z)
    rw [z]
    decide
  · exact br_f (nI_nle (by omega) (by omega)) (br_f (nI_nlt (a := 128) (b := w) (by omega) (by omega)) (h1 (w - 1) (by omega)))
theorem qv_dle {E : Nat → Nat} {H : Nat → Int32} {v c : Nat} (P : qr_PI E H) (hv : v < 5) (hc : c < 16) : qv_de E H v c ≤ 128 := by
  by_cases z : E (v * 4 + c / 4) = 0
  · rw [qv_de0 z]; omega
  · have e : E (v * 4 + c / 4) = (E (v * 4 + c / 4) - 1) + 1 := by omega
    rw [qv_det e]
    exact (P.2 _ ⟨_, by omega, e⟩ _ (by omega)).2.1
theorem qw_de {post : Int32 → Prop} {l : Int32} {b x c H : Nat → Int32} {E : Nat → Nat} {v g : Nat} (P : qr_PI E H) (hv : v < 5) (hg : g < 16) (k : post (nI (qv_de E H v g))) : wpX_dataEntry post (l, b, fun p => nI (E p), x, H, c) (nI v) (nI g) := by
  unfold wpX_dataEntry
  dsimp only
  rw [qx_r4 (by omega), qx_d4 (by omega), qx_cl (by omega)]
  refine ⟨qx_40, qx_in (by omega) (by omega), nm_e (qw_nh (P.1 _) (fun z => br_t rfl ?_) (fun d z => br_f qx_10 ⟨qx_40, ?_, ?_⟩))⟩
  · rw [qv_de0 z] at k
    exact k
  · have hd : d < 128 := by have := P.1 (v * 4 + g / 4); omega
    rw [z, nI_pred]
    exact qx_in (by omega) (by omega)
  · have hd : d < 128 := by have := P.1 (v * 4 + g / 4); omega
    rw [z, nI_pred, qx_cl (by omega), (P.2 d ⟨_, by omega, z⟩ (g % 4) (by omega)).1, ← qv_det z]
    exact k
theorem qw_wv {post : Int32 → Prop} {l : Int32} {b x c H : Nat → Int32} {E : Nat → Nat} {v a : Nat} (P : qr_PI E H) (hv : v < 5) (ha : a < 64) (k0 : qv_de E H v (a / 4) = 0 → post (b a)) (k1 : ∀ d, qv_de E H v (a / 4) = d + 1 → post (H (d * 4 + a % 4))) : wpX_wordInView post (l, b, fun p => nI (E p), x, H, c) (nI v) (nI a) := by
  unfold wpX_wordInView
  dsimp only
  rw [qx_r4 (by omega), qx_d4 (by omega)]
  refine ⟨qx_40, qw_de P hv (by omega) (qw_nh (qv_dle P hv (by omega)) (fun z => br_t rfl ⟨vp_in_nI ha (by omega), ?_⟩) (fun d z => br_f qx_10 ⟨qx_40, ?_, ?_⟩))⟩
  · rw [nI_clamp (by omega)]
    exact k0 z
  · have hd : d < 128 := by have := qv_dle P hv (c := a / 4) (by omega); omega
    rw [z, nI_pred]
    exact qx_in (by omega) (by omega)
  · have hd : d < 128 := by have := qv_dle P hv (c := a / 4) (by omega); omega
    rw [z, nI_pred, qx_cl (by omega)]
    exact k1 d z
theorem qw_ai {post : Int32 → Prop} {l : Int32} {b x c H : Nat → Int32} {E : Nat → Nat} {v g : Nat} (P : qr_PI E H) (hv : v < 5) (hg : g < 16) (k0 : qv_de E H v g = 0 → post 0) (k1 : ∀ d, qv_de E H v g = d + 1 → post 1) : wpX_isAllocatedIn post (l, b, fun p => nI (E p), x, H, c) (nI v) (nI g) := by
  unfold wpX_isAllocatedIn
  dsimp only
  exact qw_de P hv hg (qw_nh (qv_dle P hv hg) (fun z => ⟨qx_nb0, k0 z⟩) (fun d z => ⟨qx_nb1, k1 d z⟩))
end
section
theorem qw_take {post : Int32 → SX → Prop} {l : Int32} {b e x H : Nat → Int32} {r : Nat → Nat} (k : Nat) (hk : k < 127) (h0 : r k = 0) (hn : ∀ j, j < k → r j ≠ 0) (hr : ∀ j, r j < 2 ^ 31) (kp : post (nI k) (l, b, e, x, H, upd (fun h => nI (r h)) k 1)) : wpX_takeHostCluster post (l, b, e, x, H, fun h => nI (r h)) := by
  have w : ∀ d j, j + d = k → wX_takeHostCluster_2 post l b e x H (fun h => nI (r h)) (d + 1) (nI j) := by
    intro d
    induction d with
    | zero =>
      intro j hj
      have hj' : j = k := by omega
      rw [hj']
      refine br_f (nI_ge (b := 127) hk (by omega)) ⟨vp_in_nI (by omega) (by omega), br_t ?_ ⟨vp_in_nI (by omega) (by omega), nm_e ?_⟩⟩
      · rw [nI_clamp (by omega)]
        show nI (r k) = 0
        rw [h0]
        rfl
      · rw [nI_clamp (by omega)]
        exact kp
    | succ d ih =>
      intro j hj
      refine br_f (nI_ge (b := 127) (a := j) (by omega) (by omega)) ⟨vp_in_nI (by omega) (by omega), br_f ?_ (nm_r (nI_1 j) (ih (j + 1) (by omega)))⟩
      rw [nI_clamp (by omega)]
      show ¬ nI (r j) = 0
      have a := hn j (by omega)
      exact nI_ne0 (by omega) (hr j)
  exact ⟨k + 1, w k 0 (by omega)⟩
theorem qw_clear {post : SX → Prop} {l : Int32} {b e x H c : Nat → Int32} {t : Nat} (ht : t < 128) (h : post (l, b, e, x, qh_s H (t * 4) (fun _ => 0) 4, c)) : wpX_clearTable post (l, b, e, x, H, c) (nI t) := by
  refine loop_0 (fun n i (s : Nat → Int32) => wX_clearTable_2 post (nI t) l n (nI i) b e x s c) (fun i s => s = qh_s H (t * 4) (fun _ => 0) i) 4 H (qh_0 _ _ _).symm (fun n s hs => ?_) (fun n i s hi hs k => ?_)
  · rw [hs]
    exact br_t (nI_le (a := 4) (by omega) (by omega)) h
  · have he : upd s (nI t * 4 + nI i).toNatClampNeg 0 = qh_s H (t * 4) (fun _ => 0) (i + 1) := by
      rw [qx_cl (by omega), hs]
      exact qh_step rfl
    exact br_f (nI_ge (b := 4) hi (by omega)) ⟨qx_in (by omega) (by omega), nm_r he (nm_r (nI_1 i) (k _ rfl))⟩
theorem qw_copy {post : SX → Prop} {l : Int32} {b e x H c : Nat → Int32} {f t : Nat} (hf : f < 128) (ht : t < 128) (hn : f ≠ t) (h : post (l, b, e, x, qh_s H (t * 4) (fun i => H (f * 4 + i)) 4, c)) : wpX_copyHostCluster post (l, b, e, x, H, c) (nI f) (nI t) := by
  refine loop_0 (fun n i (s : Nat → Int32) => wX_copyHostCluster_2 post (nI f) (nI t) l n (nI i) b e x s c) (fun i s => s = qh_s H (t * 4) (fun i => H (f * 4 + i)) i) 4 H (qh_0 _ _ _).symm (fun n s hs => ?_) (fun n i s hi hs k => ?_)
  · rw [hs]
    exact br_t (nI_le (a := 4) (by omega) (by omega)) h
  · have he : upd s (nI t * 4 + nI i).toNatClampNeg (s (nI f * 4 + nI i).toNatClampNeg) = qh_s H (t * 4) (fun i => H (f * 4 + i)) (i + 1) := by
      rw [qx_cl (by omega), qx_cl (by omega), hs]
      exact qh_step (qh_out (by omega))
    exact br_f (nI_ge (b := 4) hi (by omega)) ⟨qx_in (by omega) (by omega), qx_in (by omega) (by omega), nm_r he (nm_r (nI_1 i) (k _ rfl))⟩
theorem qw_fromB {post : SX → Prop} {l : Int32} {b e x H c : Nat → Int32} {g t : Nat} (hg : g < 16) (ht : t < 128) (h : post (l, b, e, x, qh_s H (t * 4) (fun i => b (g * 4 + i)) 4, c)) : wpX_copyFromBacking post (l, b, e, x, H, c) (nI g) (nI t) := by
  refine loop_0 (fun n i (s : Nat → Int32) => wX_copyFromBacking_2 post (nI g) (nI t) l n (nI i) b e x s c) (fun i s => s = qh_s H (t * 4) (fun i => b (g * 4 + i)) i) 4 H (qh_0 _ _ _).symm (fun n s hs => ?_) (fun n i s hi hs k => ?_)
  · rw [hs]
    exact br_t (nI_le (a := 4) (by omega) (by omega)) h
  · have he : upd s (nI t * 4 + nI i).toNatClampNeg (b (nI g * 4 + nI i).toNatClampNeg) = qh_s H (t * 4) (fun i => b (g * 4 + i)) (i + 1) := by
      rw [qx_cl (by omega), qx_cl (by omega), hs]
      exact qh_step rfl
    exact br_f (nI_ge (b := 4) hi (by omega)) ⟨qx_in (by omega) (by omega), qx_in (by omega) (by omega), nm_r he (nm_r (nI_1 i) (k _ rfl))⟩
theorem qw_toB {post : SX → Prop} {l : Int32} {b e x H c : Nat → Int32} {g t : Nat} (hg : g < 16) (ht : t < 128) (h : post (l, qh_s b (g * 4) (fun i => H (t * 4 + i)) 4, e, x, H, c)) : wpX_copyToBacking post (l, b, e, x, H, c) (nI t) (nI g) := by
  refine loop_0 (fun n i (s : Nat → Int32) => wX_copyToBacking_2 post (nI t) (nI g) l n (nI i) s e x H c) (fun i s => s = qh_s b (g * 4) (fun i => H (t * 4 + i)) i) 4 b (qh_0 _ _ _).symm (fun n s hs => ?_) (fun n i s hi hs k => ?_)
  · rw [hs]
    exact br_t (nI_le (a := 4) (by omega) (by omega)) h
  · have he : upd s (nI g * 4 + nI i).toNatClampNeg (H (nI t * 4 + nI i).toNatClampNeg) = qh_s b (g * 4) (fun i => H (t * 4 + i)) (i + 1) := by
      rw [qx_cl (by omega), qx_cl (by omega), hs]
      exact qh_step rfl
    exact br_f (nI_ge (b := 4) hi (by omega)) ⟨qx_in (by omega) (by omega), qx_in (by omega) (by omega), nm_r he (nm_r (nI_1 i) (k _ rfl))⟩
/-- the counts of what a table names, once more -/
theorem qw_ct8 {post : SX → Prop} {l : Int32} {b e x H : Nat → Int32} {r : Nat → Nat} {t : Nat} (ht : t < 128) (hrow : ∀ i, i < 4 → H (t * 4 + i) = nI (qr_T H (t * 4 + i)) ∧ qr_T H (t * 4 + i) ≤ 128) (h : post (l, b, e, x, H, fun h => nI (r h + qr_nT H t h))) : ∃ n, wX_copyTable_8 post (nI t) l n 0 b e x H (fun h => nI (r h)) := by
  refine loop_0 (fun n i (s : Nat → Int32) => wX_copyTable_8 post (nI t) l n (nI i) b e x H s) (fun i s => s = fun h => nI (r h + qr_p H t h i)) 4 (fun h => nI (r h)) rfl (fun n s hs => ?_) (fun n i s hi hs k => ?_)
  · rw [hs]
    exact br_t (nI_le (a := 4) (by omega) (by omega)) h
  · have hR := hrow i hi
    have he : H (nI t * 4 + nI i).toNatClampNeg = nI (qr_T H (t * 4 + i)) := by
      rw [qx_cl (by omega)]
      exact hR.1
    refine br_f (nI_ge (b := 4) hi (by omega)) ⟨qx_in (by omega) (by omega), nm_r he (qw_nh hR.2 (fun z => br_t rfl (nm_r (nI_1 i) (k _ ?_))) (fun w z => br_f qx_10 ?_))⟩
    · rw [hs]
      exact qi_pinc0 z
    · have hw : w < 128 := by omega
      rw [z, nI_pred]
      have hu : upd s (nI w).toNatClampNeg (s (nI w).toNatClampNeg + 1) = fun h => nI (r h + qr_p H t h (i + 1)) := by
        rw [nI_clamp (by omega), hs]
        exact qi_pinc z rfl
      exact ⟨vp_in_nI hw (by omega), vp_in_nI hw (by omega), nm_r hu (nm_r (nI_1 i) (k _ rfl))⟩
theorem qw_ct {post : SX → Prop} {l : Int32} {b e x H : Nat → Int32} {r : Nat → Nat} {f t : Nat} (hf : f < 128) (ht : t < 128) (hn : f ≠ t) (hrow : ∀ i, i < 4 → H (f * 4 + i) = nI (qr_T H (f * 4 + i)) ∧ qr_T H (f * 4 + i) ≤ 128) (h : post (l, b, e, x, qh_s H (t * 4) (fun i => H (f * 4 + i)) 4, fun h => nI (r h + qr_nT (qh_s H (t * 4) (fun i => H (f * 4 + i)) 4) t h))) : wpX_copyTable post (l, b, e, x, H, fun h => nI (r h)) (nI f) (nI t) := by
  unfold wpX_copyTable
  dsimp only
  refine qw_copy hf ht hn ?_
  dsimp only
  refine qw_ct8 ht (fun i hi => ?_) h
  have e : qh_s H (t * 4) (fun i => H (f * 4 + i)) 4 (t * 4 + i) = H (f * 4 + i) := qh_in hi
  have e2 : qr_T (qh_s H (t * 4) (fun i => H (f * 4 + i)) 4) (t * 4 + i) = qr_T H (f * 4 + i) := by unfold qr_T; rw [e]
  rw [e2, e]
  exact hrow i hi
theorem qw_rt22 {post : SX → Prop} {l : Int32} {b e x H : Nat → Int32} {r : Nat → Nat} {t : Nat} (ht : t < 128) (hrow : ∀ i, i < 4 → H (t * 4 + i) = nI (qr_T H (t * 4 + i)) ∧ qr_T H (t * 4 + i) ≤ 128) (hr : ∀ h, qr_nT H t h ≤ r h) (h : post (l, b, e, x, H, fun h => nI (r h - qr_nT H t h))) : ∃ n, wX_releaseTable_22 post (nI t) l n 0 b e x H (fun h => nI (r h)) := by
  refine loop_0 (fun n i (s : Nat → Int32) => wX_releaseTable_22 post (nI t) l n (nI i) b e x H s) (fun i s => s = fun h => nI (r h - qr_p H t h i)) 4 (fun h => nI (r h)) rfl (fun n s hs => ?_) (fun n i s hi hs k => ?_)
  · rw [hs]
    exact br_t (nI_le (a := 4) (by omega) (by omega)) h
  · have hR := hrow i hi
    have he : H (nI t * 4 + nI i).toNatClampNeg = nI (qr_T H (t * 4 + i)) := by
      rw [qx_cl (by omega)]
      exact hR.1
    refine br_f (nI_ge (b := 4) hi (by omega)) ⟨qx_in (by omega) (by omega), nm_r he (qw_nh hR.2 (fun z => br_t rfl (nm_r (nI_1 i) (k _ ?_))) (fun w z => br_f qx_10 ?_))⟩
    · rw [hs]
      exact qi_pdec0 z
    · have hw : w < 128 := by omega
      rw [z, nI_pred]
      have hu : upd s (nI w).toNatClampNeg (s (nI w).toNatClampNeg - 1) = fun h => nI (r h - qr_p H t h (i + 1)) := by
        rw [nI_clamp (by omega), hs]
        exact qi_pdec hi hr z rfl
      exact ⟨vp_in_nI hw (by omega), vp_in_nI hw (by omega), nm_r hu (nm_r (nI_1 i) (k _ rfl))⟩
/-- an L1 entry that names table t has gone: its count, and with the last one those of its data -/
theorem qw_rt {post : SX → Prop} {l : Int32} {b e x H : Nat → Int32} {E : Nat → Nat} {q t : Nat} (P : qr_PI E H) (hq : q < 20) (hE : E q = t + 1) (h : post (l, b, e, x, H, fun h => nI (qr_ref (qr_ue E q 0) H h))) : wpX_releaseTable post (l, b, e, x, H, fun h => nI (qr_ref E H h)) (nI t) := by
  have L : qr_Lv E t := ⟨q, hq, hE⟩
  have ht := qr_Lt P L
  obtain ⟨g1, g2, g3, g4⟩ := qt_go P hq hE
  have hu : upd (fun h => nI (qr_ref E H h)) (nI t).toNatClampNeg (nI (qr_ref E H (nI t).toNatClampNeg) - 1) = fun h => nI (qr_ref E H h - qs_b t h) := by
    rw [nI_clamp (by omega)]
    exact qi_dec (r := fun h => qr_ref E H h) (r' := fun h => qr_ref E H h - qs_b t h) rfl g1
  have hle := qr_nEle (qr_ue E q 0) t
  refine ⟨vp_in_nI ht (by omega), vp_in_nI ht (by omega), nm_r hu ⟨vp_in_nI ht (by omega), ?_⟩⟩
  rw [nI_clamp (by omega), show (fun h => nI (qr_ref E H h - qs_b t h)) t = nI (qr_nE (qr_ue E q 0) t) from congrArg nI g2]
  by_cases z : qr_nE (qr_ue E q 0) t = 0
  · refine br_t ?_ ?_
    · rw [z]; rfl
    · refine qw_rt22 (r := fun h => qr_ref E H h - qs_b t h) ht (fun i hi => ?_) (fun h => (g4 z h).1) ?_
      · exact ⟨(P.2 t L i hi).1, (P.2 t L i hi).2.1⟩
      · have e : (fun h => nI (qr_ref E H h - qs_b t h - qr_nT H t h)) = fun h => nI (qr_ref (qr_ue E q 0) H h) := by
          funext h
          rw [(g4 z h).2]
        rw [e]
        exact h
  · refine br_f (nI_ne0 (by omega) (by omega)) ?_
    have e : (fun h => nI (qr_ref E H h - qs_b t h)) = fun h => nI (qr_ref (qr_ue E q 0) H h) := by
      funext h
      rw [g3 z h]
    rw [e]
    exact h
end
section
theorem qv_Sr (E : Nat → Nat) (H : Nat → Int32) (v c : Nat) : qv_S E H E H v c := ⟨rfl, fun _ _ _ _ => rfl⟩
theorem qw_ut81 {post : Int32 → SX → Prop} {l : Int32} {b x H c : Nat → Int32} {E : Nat → Nat} {q f : Nat} (hq : q < 20) (k : post (nI f) (l, b, fun p => nI (qr_ue E q (f + 1) p), x, H, c)) : wX_unsharedTable_81 post (nI q) (nI f) l b (fun p => nI (E p)) x H c := by
  have he : upd (fun p => nI (E p)) (nI q).toNatClampNeg (nI f + 1) = fun p => nI (qr_ue E q (f + 1) p) := by
    rw [nI_clamp (by omega), nI_1]
    exact qi_ue E q (f + 1)
  exact ⟨vp_in_nI hq (by omega), nm_r he k⟩
def qw_K (post : Int32 → SX → Prop) (l : Int32) (b x H : Nat → Int32) (E : Nat → Nat) (q : Nat) : Prop := ∀ (E' : Nat → Nat) (H' : Nat → Int32) (t : Nat), qr_PI E' H' → E' q = t + 1 → qr_nE E' t = 1 → (∀ v c, v < 5 → c < 16 → qv_S E H E' H' v c) → (∀ p, p ≠ q → E' p = E p) → post (nI t) (l, b, fun p => nI (E' p), x, H', fun h => nI (qr_ref E' H' h))
theorem qw_ut40a {post : Int32 → SX → Prop} {l : Int32} {b x H : Nat → Int32} {E : Nat → Nat} {q : Nat} {y : Int32} (P : qr_PI E H) (hq : q < 20) (hE : E q = 0) (K : qw_K post l b x H E q) : wX_unsharedTable_40 post (nI q) y 0 l b (fun p => nI (E p)) x H (fun h => nI (qr_ref E H h)) := by
  obtain ⟨f, hf, f0, fn⟩ := qr_first E H
  unfold wX_unsharedTable_40
  refine qw_take (r := fun h => qr_ref E H h) f hf f0 fn (fun j => by have := qr_refle E H j; show qr_ref E H j < 2 ^ 31; omega) ?_
  have hr : ∀ s i, s ≠ f → i < 4 → qh_s H (f * 4) (fun _ => 0) 4 (s * 4 + i) = H (s * 4 + i) := fun s i hs hi => qh_out (by omega)
  have hz : ∀ i, i < 4 → qh_s H (f * 4) (fun _ => 0) 4 (f * 4 + i) = 0 := fun i hi => qh_in hi
  have ec : upd (fun h => nI (qr_ref E H h)) f 1 = fun h => nI (qr_ref (qr_ue E q (f + 1)) (qh_s H (f * 4) (fun _ => 0) 4) h) :=
    qi_new (r := fun h => qr_ref E H h) (r' := fun h => qr_ref (qr_ue E q (f + 1)) (qh_s H (f * 4) (fun _ => 0) 4) h) f0 (fun h => qt_tab0 hq (by omega) f0 hr hE hz h)
  rw [ec]
  refine br_t rfl (qw_clear (by omega) (qw_ut81 hq ?_))
  obtain ⟨t1, t2, t3⟩ := qt_tab P hq (by omega) f0 hr (fun _ => hz) (fun e z => by omega)
  exact K _ _ f t1 (qr_ue_s _ _ _) t3 t2 (fun p hp => qr_ue_n hp)
theorem qw_ut40b {post : Int32 → SX → Prop} {l : Int32} {b x H : Nat → Int32} {E : Nat → Nat} {q e : Nat} (P : qr_PI E H) (hq : q < 20) (hE : E q = e + 1) (h1 : qr_nE E e ≠ 1) (K : qw_K post l b x H E q) : wX_unsharedTable_40 post (nI q) (nI (e + 1)) 1 l b (fun p => nI (E p)) x H (fun h => nI (qr_ref E H h)) := by
  obtain ⟨f, hf, f0, fn⟩ := qr_first E H
  have L : qr_Lv E e := ⟨q, hq, hE⟩
  have he := qr_Lt P L
  have hef : e ≠ f := fun z => qr_free f0 (z ▸ L)
  unfold wX_unsharedTable_40
  rw [nI_pred]
  refine qw_take (r := fun h => qr_ref E H h) f hf f0 fn (fun j => by have := qr_refle E H j; show qr_ref E H j < 2 ^ 31; omega) ?_
  have ec : upd (fun h => nI (qr_ref E H h)) f 1 = fun h => nI (qr_ref E H h + qs_b f h) :=
    qi_new (r := fun h => qr_ref E H h) (r' := fun h => qr_ref E H h + qs_b f h) f0 (fun _ => rfl)
  rw [ec]
  refine br_f qx_10 (qw_ct (r := fun h => qr_ref E H h + qs_b f h) he (by omega) hef (fun i hi => ⟨(P.2 e L i hi).1, (P.2 e L i hi).2.1⟩) ?_)
  have hr : ∀ s i, s ≠ f → i < 4 → qh_s H (f * 4) (fun i => H (e * 4 + i)) 4 (s * 4 + i) = H (s * 4 + i) := fun s i hs hi => qh_out (by omega)
  have hc : ∀ i, i < 4 → qh_s H (f * 4) (fun i => H (e * 4 + i)) 4 (f * 4 + i) = H (e * 4 + i) := fun i hi => qh_in hi
  have hu : upd (fun h => nI (qr_ref E H h + qs_b f h + qr_nT (qh_s H (f * 4) (fun i => H (e * 4 + i)) 4) f h)) (nI e).toNatClampNeg (nI (qr_ref E H (nI e).toNatClampNeg + qs_b f (nI e).toNatClampNeg + qr_nT (qh_s H (f * 4) (fun i => H (e * 4 + i)) 4) f (nI e).toNatClampNeg) - 1) = fun h => nI (qr_ref (qr_ue E q (f + 1)) (qh_s H (f * 4) (fun i => H (e * 4 + i)) 4) h) := by
    rw [nI_clamp (by omega)]
    exact qi_dec (r := fun h => qr_ref E H h + qs_b f h + qr_nT (qh_s H (f * 4) (fun i => H (e * 4 + i)) 4) f h) (r' := fun h => qr_ref (qr_ue E q (f + 1)) (qh_s H (f * 4) (fun i => H (e * 4 + i)) 4) h) rfl (fun h => (qt_tab1 hq (by omega) he f0 hr hE h1 h).symm)
  refine ⟨vp_in_nI he (by omega), vp_in_nI he (by omega), nm_r hu (qw_ut81 hq ?_)⟩
  obtain ⟨t1, t2, t3⟩ := qt_tab P hq (by omega) f0 hr (fun z => by omega) (fun e' z => by
    have : e' = e := by omega
    rw [this]
    exact hc)
  exact K _ _ f t1 (qr_ue_s _ _ _) t3 t2 (fun p hp => qr_ue_n hp)
theorem qw_ut {post : Int32 → SX → Prop} {l : Int32} {b x H : Nat → Int32} {E : Nat → Nat} {j : Nat} (P : qr_PI E H) (hj : j < 4) (K : qw_K post l b x H E (16 + j)) : wpX_unsharedTable post (l, b, fun p => nI (E p), x, H, fun h => nI (qr_ref E H h)) (nI j) := by
  have hq : 16 + j < 20 := by omega
  have he : (fun p => nI (E p)) (nI (16 + j)).toNatClampNeg = nI (E (16 + j)) := by rw [nI_clamp (by omega)]
  refine nm_r (nI_add 16 j) ⟨vp_in_nI hq (by omega), nm_r he (qw_nh (P.1 _) (fun z => br_t rfl (qw_ut40a P hq z K)) (fun e z => br_f qx_10 ?_))⟩
  have L : qr_Lv E e := ⟨_, hq, z⟩
  have hl := qr_Lt P L
  have hle := qr_nEle E e
  rw [z, nI_pred]
  refine ⟨vp_in_nI hl (by omega), ?_⟩
  rw [nI_clamp (by omega), show (fun h => nI (qr_ref E H h)) e = nI (qr_nE E e) from congrArg nI (qr_tref P L)]
  by_cases h1 : qr_nE E e = 1
  · refine br_t ?_ (K E H e P z h1 (fun v c _ _ => qv_Sr E H v c) (fun _ _ => rfl))
    rw [h1]
    rfl
  · refine br_f ?_ (qw_ut40b P hq z h1 K)
    intro y
    exact h1 ((nI_eq (b := 1) (by omega) (by omega)).mp y)
def qw_K2 (post : Int32 → SX → Prop) (l : Int32) (b x H : Nat → Int32) (E : Nat → Nat) (t g : Nat) : Prop := ∀ (H' : Nat → Int32) (d : Nat), qr_PI E H' → qr_T H' (t * 4 + g % 4) = d + 1 → qr_ref E H' d = 1 → (∀ v c, v < 5 → c < 16 → (v ≠ 4 ∨ c ≠ g) → qv_S E H E H' v c) → (qr_T H (t * 4 + g % 4) = 0 → ∀ i, i < 4 → H' (d * 4 + i) = b (g * 4 + i)) → (∀ e, qr_T H (t * 4 + g % 4) = e + 1 → ∀ i, i < 4 → H' (d * 4 + i) = H (e * 4 + i)) → post (nI d) (l, b, fun p => nI (E p), x, H', fun h => nI (qr_ref E H' h))
theorem qw_ud91 {post : Int32 → SX → Prop} {l : Int32} {b e x H c : Nat → Int32} {p f : Nat} (hp : p < 512) (k : post (nI f) (l, b, e, x, upd H p (nI (f + 1)), c)) : wX_unsharedData_91 post (nI p) (nI f) l b e x H c := by
  have he : upd H (nI p).toNatClampNeg (nI f + 1) = upd H p (nI (f + 1)) := by
    rw [nI_clamp (by omega), nI_1]
  exact ⟨vp_in_nI hp (by omega), nm_r he k⟩
theorem qw_ud47a {post : Int32 → SX → Prop} {l : Int32} {b x H : Nat → Int32} {E : Nat → Nat} {t g : Nat} {y : Int32} (P : qr_PI E H) (hg : g < 16) (hE : E (16 + g / 4) = t + 1) (h1 : qr_nE E t = 1) (hT : qr_T H (t * 4 + g % 4) = 0) (K : qw_K2 post l b x H E t g) : wX_unsharedData_47 post (nI g) (nI (t * 4 + g % 4)) y 0 l b (fun p => nI (E p)) x H (fun h => nI (qr_ref E H h)) := by
  obtain ⟨f, hf, f0, fn⟩ := qr_first E H
  have L : qr_Lv E t := ⟨_, by omega, hE⟩
  have ht := qr_Lt P L
  have htf : t ≠ f := fun z => qr_free f0 (z ▸ L)
  unfold wX_unsharedData_47
  refine qw_take (r := fun h => qr_ref E H h) f hf f0 fn (fun j => by have := qr_refle E H j; show qr_ref E H j < 2 ^ 31; omega) ?_
  have hp : upd (qh_s H (f * 4) (fun i => b (g * 4 + i)) 4) (t * 4 + g % 4) (nI (f + 1)) (t * 4 + g % 4) = nI (f + 1) := pk_us
  have hr : ∀ s i, s ≠ f → i < 4 → (s ≠ t ∨ i ≠ g % 4) → upd (qh_s H (f * 4) (fun i => b (g * 4 + i)) 4) (t * 4 + g % 4) (nI (f + 1)) (s * 4 + i) = H (s * 4 + i) := fun s i hs hi hn => (pk_un (by omega)).trans (qh_out (by omega))
  obtain ⟨d1, d2, d3, d4, d5⟩ := qt_dat P hg rfl hE h1 (by omega) f0 hp hr
  have ec : upd (fun h => nI (qr_ref E H h)) f 1 = fun h => nI (qr_ref E (upd (qh_s H (f * 4) (fun i => b (g * 4 + i)) 4) (t * 4 + g % 4) (nI (f + 1))) h) :=
    qi_new (r := fun h => qr_ref E H h) (r' := fun h => qr_ref E (upd (qh_s H (f * 4) (fun i => b (g * 4 + i)) 4) (t * 4 + g % 4) (nI (f + 1))) h) f0 (fun h => by
      have a := d2 h
      rw [hT, qs_b0 (a := 0) (b := h + 1) (by omega), Nat.add_zero] at a
      exact a)
  rw [ec]
  refine br_t rfl (qw_fromB hg (by omega) (qw_ud91 (by omega) ?_))
  refine K _ f d1 (qr_Tn hp (by omega)) d4 d3 (fun _ i hi => ?_) (fun e z => by omega)
  exact (pk_un (by omega)).trans (qh_in hi)
theorem qw_ud47b {post : Int32 → SX → Prop} {l : Int32} {b x H : Nat → Int32} {E : Nat → Nat} {t g e : Nat} (P : qr_PI E H) (hg : g < 16) (hE : E (16 + g / 4) = t + 1) (h1 : qr_nE E t = 1) (hT : qr_T H (t * 4 + g % 4) = e + 1) (K : qw_K2 post l b x H E t g) : wX_unsharedData_47 post (nI g) (nI (t * 4 + g % 4)) (nI (e + 1)) 1 l b (fun p => nI (E p)) x H (fun h => nI (qr_ref E H h)) := by
  obtain ⟨f, hf, f0, fn⟩ := qr_first E H
  have L : qr_Lv E t := ⟨_, by omega, hE⟩
  have ht := qr_Lt P L
  have htf : t ≠ f := fun z => qr_free f0 (z ▸ L)
  have he : e < 128 := by have := (P.2 t L (g % 4) (by omega)).2.1; omega
  have hef : e ≠ f := by
    intro z
    have := qr_named P L (by omega) hT
    rw [z] at this
    omega
  unfold wX_unsharedData_47
  rw [nI_pred]
  refine qw_take (r := fun h => qr_ref E H h) f hf f0 fn (fun j => by have := qr_refle E H j; show qr_ref E H j < 2 ^ 31; omega) ?_
  have hp : upd (qh_s H (f * 4) (fun i => H (e * 4 + i)) 4) (t * 4 + g % 4) (nI (f + 1)) (t * 4 + g % 4) = nI (f + 1) := pk_us
  have hr : ∀ s i, s ≠ f → i < 4 → (s ≠ t ∨ i ≠ g % 4) → upd (qh_s H (f * 4) (fun i => H (e * 4 + i)) 4) (t * 4 + g % 4) (nI (f + 1)) (s * 4 + i) = H (s * 4 + i) := fun s i hs hi hn => (pk_un (by omega)).trans (qh_out (by omega))
  obtain ⟨d1, d2, d3, d4, d5⟩ := qt_dat P hg rfl hE h1 (by omega) f0 hp hr
  have ec : upd (fun h => nI (qr_ref E H h)) f 1 = fun h => nI (qr_ref E H h + qs_b f h) :=
    qi_new (r := fun h => qr_ref E H h) (r' := fun h => qr_ref E H h + qs_b f h) f0 (fun _ => rfl)
  rw [ec]
  have hu : upd (fun h => nI (qr_ref E H h + qs_b f h)) (nI e).toNatClampNeg (nI (qr_ref E H (nI e).toNatClampNeg + qs_b f (nI e).toNatClampNeg) - 1) = fun h => nI (qr_ref E (upd (qh_s H (f * 4) (fun i => H (e * 4 + i)) 4) (t * 4 + g % 4) (nI (f + 1))) h) := by
    rw [nI_clamp (by omega)]
    exact qi_dec (r := fun h => qr_ref E H h + qs_b f h) (r' := fun h => qr_ref E (upd (qh_s H (f * 4) (fun i => H (e * 4 + i)) 4) (t * 4 + g % 4) (nI (f + 1))) h) rfl (fun h => by
      have a := d2 h
      rw [hT, qs_bs] at a
      exact a.symm)
  refine br_f qx_10 (qw_copy he (by omega) hef ⟨vp_in_nI he (by omega), vp_in_nI he (by omega), nm_r hu (qw_ud91 (by omega) ?_)⟩)
  refine K _ f d1 (qr_Tn hp (by omega)) d4 d3 (fun z => by omega) (fun e' z i hi => ?_)
  have ee : e' = e := by omega
  rw [ee]
  exact (pk_un (by omega)).trans (qh_in hi)
theorem qw_ud {post : Int32 → SX → Prop} {l : Int32} {b x H : Nat → Int32} {E : Nat → Nat} {t g : Nat} (P : qr_PI E H) (hg : g < 16) (hE : E (16 + g / 4) = t + 1) (h1 : qr_nE E t = 1) (K : qw_K2 post l b x H E t g) : wpX_unsharedData post (l, b, fun p => nI (E p), x, H, fun h => nI (qr_ref E H h)) (nI t) (nI g) := by
  have L : qr_Lv E t := ⟨_, by omega, hE⟩
  have ht := qr_Lt P L
  have R := P.2 t L (g % 4) (by omega)
  unfold wpX_unsharedData
  dsimp only
  rw [qx_r4 (by omega)]
  have he : H (nI (t * 4 + g % 4)).toNatClampNeg = nI (qr_T H (t * 4 + g % 4)) := by
    rw [nI_clamp (by omega)]
    exact R.1
  refine ⟨qx_40, nm_r (qx_ix t (g % 4)) ⟨vp_in_nI (by omega) (by omega), nm_r he (qw_nh R.2.1 (fun z => br_t rfl (qw_ud47a P hg hE h1 z K)) (fun e z => br_f qx_10 ?_))⟩⟩
  have hl : e < 128 := by omega
  have hle := qr_refle E H e
  rw [z, nI_pred]
  refine ⟨vp_in_nI hl (by omega), ?_⟩
  rw [nI_clamp (by omega)]
  by_cases h2 : qr_ref E H e = 1
  · refine br_t ?_ (K H e P z h2 (fun v c _ _ _ => qv_Sr E H v c) (fun y => by omega) (fun e' y i _ => ?_))
    · rw [h2]
      rfl
    · have ee : e' = e := by omega
      rw [ee]
  · refine br_f ?_ (qw_ud47b P hg hE h1 z K)
    intro y
    exact h2 ((nI_eq (b := 1) (by omega) (by omega)).mp y)
end
section
theorem qw_sh {post : SX → Prop} {l : Nat} {b x H : Nat → Int32} {E : Nat → Nat} {f s : Nat} (hl : l ≤ 4) (P : qr_PI E H) (hf : f < 5) (hs : s < 5) (hn : f ≠ s) (h0 : ∀ j, j < 4 → E (s * 4 + j) = 0) (kp : ∀ E' : Nat → Nat, qr_PI E' H → (∀ j, j < l → E' (s * 4 + j) = E (f * 4 + j)) → (∀ p, (p < s * 4 ∨ s * 4 + l ≤ p) → E' p = E p) → post (nI l, b, fun p => nI (E' p), x, H, fun h => nI (qr_ref E' H h))) : wpX_shareTables post (nI l, b, fun p => nI (E p), x, H, fun h => nI (qr_ref E H h)) (nI f) (nI s) := by
  refine loop_0 (fun n i (u : (Nat → Int32) × (Nat → Int32)) => wX_shareTables_2 post (nI f) (nI s) (nI l) n (nI i) b u.1 x H u.2) (fun i u => ∃ E' : Nat → Nat, u = (fun p => nI (E' p), fun h => nI (qr_ref E' H h)) ∧ qr_PI E' H ∧ (∀ j, j < i → E' (s * 4 + j) = E (f * 4 + j)) ∧ (∀ p, (p < s * 4 ∨ s * 4 + i ≤ p) → E' p = E p)) l (fun p => nI (E p), fun h => nI (qr_ref E H h)) ⟨E, rfl, P, fun j hj => absurd hj (Nat.not_lt_zero j), fun _ _ => rfl⟩ (fun n u hu => ?_) (fun n i u hi hu k => ?_)
  · obtain ⟨E', rfl, P', e1, e2⟩ := hu
    exact br_t (nI_le (Nat.le_refl l) (by omega)) (kp E' P' e1 e2)
  · obtain ⟨E', rfl, P', e1, e2⟩ := hu
    have ef : E' (f * 4 + i) = E (f * 4 + i) := e2 _ (by omega)
    have es : E' (s * 4 + i) = 0 := (e2 _ (by omega)).trans (h0 i (by omega))
    have he : (fun p => nI (E' p)) (nI f * 4 + nI i).toNatClampNeg = nI (E (f * 4 + i)) := by
      rw [qx_cl (by omega)]
      exact congrArg nI ef
    have hu : upd (fun p => nI (E' p)) (nI s * 4 + nI i).toNatClampNeg (nI (E (f * 4 + i))) = fun p => nI (qr_ue E' (s * 4 + i) (E (f * 4 + i)) p) := by
      rw [qx_cl (by omega)]
      exact qi_ue E' (s * 4 + i) (E (f * 4 + i))
    refine br_f (nI_ge hi (by omega)) ⟨qx_in (by omega) (by omega), nm_r he ⟨qx_in (by omega) (by omega), nm_r hu (qw_nh (P.1 _) (fun z => br_t rfl (nm_r (nI_1 i) (k (_, _) ⟨E', ?_, P', ?_, ?_⟩))) (fun t z => br_f qx_10 ?_))⟩⟩
    · rw [z, qr_ue_id es]
      rfl
    · intro j hj
      by_cases e : j = i
      · rw [e, es, z]
      · exact e1 j (by omega)
    · intro p hp
      exact e2 p (by omega)
    · have L : qr_Lv E' t := ⟨_, by omega, ef.trans z⟩
      have ht := qr_Lt P' L
      obtain ⟨s1, s2⟩ := qt_shr (q := s * 4 + i) P' (by omega) es L
      rw [z, nI_pred]
      have hc : upd (fun h => nI (qr_ref E' H h)) (nI t).toNatClampNeg (nI (qr_ref E' H (nI t).toNatClampNeg) + 1) = fun h => nI (qr_ref (qr_ue E' (s * 4 + i) (t + 1)) H h) := by
        rw [nI_clamp (by omega)]
        exact qi_inc (r := fun h => qr_ref E' H h) (r' := fun h => qr_ref (qr_ue E' (s * 4 + i) (t + 1)) H h) rfl s2
      refine ⟨vp_in_nI ht (by omega), vp_in_nI ht (by omega), nm_r hc (nm_r (nI_1 i) (k (_, _) ⟨qr_ue E' (s * 4 + i) (t + 1), rfl, s1, ?_, ?_⟩))⟩
      · intro j hj
        by_cases e : j = i
        · rw [e, qr_ue_s, z]
        · rw [qr_ue_n (by omega)]
          exact e1 j (by omega)
      · intro p hp
        rw [qr_ue_n (by omega)]
        exact e2 p (by omega)
theorem qw_rl {post : SX → Prop} {l : Nat} {b x H : Nat → Int32} {E : Nat → Nat} {v : Nat} (hl : l ≤ 4) (P : qr_PI E H) (hv : v < 5) (kp : ∀ E' : Nat → Nat, qr_PI E' H → (∀ j, j < l → E' (v * 4 + j) = 0) → (∀ p, (p < v * 4 ∨ v * 4 + l ≤ p) → E' p = E p) → post (nI l, b, fun p => nI (E' p), x, H, fun h => nI (qr_ref E' H h))) : wpX_releaseTables post (nI l, b, fun p => nI (E p), x, H, fun h => nI (qr_ref E H h)) (nI v) := by
  refine loop_0 (fun n i (u : (Nat → Int32) × (Nat → Int32)) => wX_releaseTables_2 post (nI v) n (nI i) (nI l) b u.1 x H u.2) (fun i u => ∃ E' : Nat → Nat, u = (fun p => nI (E' p), fun h => nI (qr_ref E' H h)) ∧ qr_PI E' H ∧ (∀ j, j < i → E' (v * 4 + j) = 0) ∧ (∀ p, (p < v * 4 ∨ v * 4 + i ≤ p) → E' p = E p)) l (fun p => nI (E p), fun h => nI (qr_ref E H h)) ⟨E, rfl, P, fun j hj => absurd hj (Nat.not_lt_zero j), fun _ _ => rfl⟩ (fun n u hu => ?_) (fun n i u hi hu k => ?_)
  · obtain ⟨E', rfl, P', e1, e2⟩ := hu
    exact br_t (nI_le (Nat.le_refl l) (by omega)) (kp E' P' e1 e2)
  · obtain ⟨E', rfl, P', e1, e2⟩ := hu
    have he : (fun p => nI (E' p)) (nI (v * 4 + i)).toNatClampNeg = nI (E' (v * 4 + i)) := by
      rw [nI_clamp (by omega)]
    refine br_f (nI_ge hi (by omega)) (nm_r (qx_ix v i) ⟨vp_in_nI (by omega) (by omega), nm_r he (qw_nh (P'.1 _) (fun z => br_t rfl (nm_r (nI_1 i) (k (_, _) ⟨E', rfl, P', ?_, ?_⟩))) (fun t z => br_f qx_10 ⟨vp_in_nI (by omega) (by omega), ?_⟩))⟩)
    · intro j hj
      by_cases e : j = i
      · rw [e, z]
      · exact e1 j (by omega)
    · intro p hp
      exact e2 p (by omega)
    · have hu : upd (fun p => nI (E' p)) (nI (v * 4 + i)).toNatClampNeg 0 = fun p => nI (qr_ue E' (v * 4 + i) 0 p) := by
        rw [nI_clamp (by omega)]
        exact qi_ue E' (v * 4 + i) 0
      rw [z, nI_pred]
      refine nm_r hu (qw_rt P' (q := v * 4 + i) (by omega) z (nm_r (nI_1 i) (k (_, _) ⟨qr_ue E' (v * 4 + i) 0, rfl, qr_PIr _ P', ?_, ?_⟩)))
      · intro j hj
        by_cases e : j = i
        · rw [e, qr_ue_s]
        · rw [qr_ue_n (by omega)]
          exact e1 j (by omega)
      · intro p hp
        rw [qr_ue_n (by omega)]
        exact e2 p (by omega)
end
section
theorem qw_le {post : Int32 → Prop} {l : Nat} {b e x H c : Nat → Int32} {E : Nat → Nat} {p : Nat} (hp : p < 20) (hl : l ≤ 4) (D : qz_D l x E) (k0 : E p = 0 → post 0) (k1 : post 1) : wpX_isLiveL1Entry post (nI l, b, e, x, H, c) (nI p) := by
  have kz : (x (p / 4) ≠ 1 ∨ l ≤ p % 4) → post 0 := by
    intro h
    apply k0
    by_cases z : E p = 0
    · exact z
    · have a := D p hp z
      cases h with
      | inl h => exact absurd a.2 h
      | inr h => omega
  unfold wpX_isLiveL1Entry
  dsimp only
  rw [qx_r4 (by omega), qx_d4 (by omega), nI_clamp (by omega)]
  refine ⟨qx_40, vp_in_nI (by omega) (by omega), br_c (fun z => kz (Or.inl ?_)) (fun z => ⟨qx_40, ?_⟩)⟩
  · rw [z]; decide
  · by_cases y : p % 4 < l
    · exact br_f (nI_ge y (by omega)) k1
    · exact br_t (nI_le (by omega) (by omega)) (kz (Or.inr (by omega)))
theorem qw_nb {post : Int32 → Prop} {l : Nat} {b x H c : Nat → Int32} {E : Nat → Nat} {p : Nat} (hp : p < 20) (hl : l ≤ 4) (D : qz_D l x E) (hE : ∀ p, E p ≤ 128) (hn : E p ≠ 0) (k0 : (∀ j, j < p → E j ≠ E p) → post 0) (k1 : ∀ j, j < p → E j = E p → post 1) : wpX_isNamedBefore post (nI l, b, fun p => nI (E p), x, H, c) (nI p) := by
  have w : ∀ d j, j + d = p → (∀ i, i < j → E i ≠ E p) → wX_isNamedBefore_2 post (nI p) (nI l) b (fun p => nI (E p)) x H c (d + 1) (nI j) := by
    intro d
    induction d with
    | zero =>
      intro j hj hh
      have e : j = p := by omega
      rw [e] at hh
      rw [e]
      exact br_t (nI_le (Nat.le_refl p) (by omega)) (k0 hh)
    | succ d ih =>
      intro j hj hh
      refine br_f (nI_ge (a := j) (b := p) (by omega) (by omega)) (qw_le (by omega) hl D (fun z => br_t rfl (nm_r (nI_1 j) (ih (j + 1) (by omega) (fun i hi => ?_)))) (br_f qx_10 ⟨vp_in_nI (by omega) (by omega), vp_in_nI (by omega) (by omega), ?_⟩))
      · by_cases e : i = j
        · rw [e, z]; exact fun y => hn y.symm
        · exact hh i (by omega)
      · rw [nI_clamp (by omega), nI_clamp (by omega)]
        have a := hE j
        have a' := hE p
        by_cases y : E j = E p
        · exact br_t (congrArg nI y) (k1 j (by omega) y)
        · refine br_f (fun v => y ((nI_eq (by omega) (by omega)).mp v)) (nm_r (nI_1 j) (ih (j + 1) (by omega) (fun i hi => ?_)))
          by_cases e : i = j
          · rw [e]; exact y
          · exact hh i (by omega)
  exact ⟨p + 1, w p 0 (by omega) (fun i hi => absurd hi (Nat.not_lt_zero i))⟩
theorem qw_lt {post : Int32 → Prop} {l : Nat} {b x H c : Nat → Int32} {E : Nat → Nat} (hl : l ≤ 4) (D : qz_D l x E) (hE : ∀ p, E p ≤ 128) (kp : ∀ M, qk_M E 20 M → post M) : wpX_liveTables post (nI l, b, fun p => nI (E p), x, H, c) := by
  refine loop_0 (fun n i (M : Int32) => wX_liveTables_4 post (nI l) b (fun p => nI (E p)) x H c n M (nI i)) (fun i M => qk_M E i M) 20 0 (qk_M0 E) (fun n M hM => ?_) (fun n i M hi hM k => ?_)
  · exact br_t (nI_le (a := 20) (by omega) (by omega)) (kp M hM)
  · have he : (fun p => nI (E p)) (nI i).toNatClampNeg = nI (E i) := by rw [nI_clamp (by omega)]
    refine br_f (nI_ge (b := 20) hi (by omega)) ⟨vp_in_nI hi (by omega), nm_r he (qw_le hi hl D (fun z => br_t rfl (nm_r (nI_1 i) (k M (qk_Mn hM (fun F => F.1 z))))) (br_f qx_10 (qw_nh (hE i) (fun z => br_t rfl (nm_r (nI_1 i) (k M (qk_Mn hM (fun F => F.1 z))))) (fun t z => br_f qx_10 (qw_nb hi hl D hE (by omega) (fun hno => br_t rfl (nm_e (nm_r (nI_1 i) (k _ (qk_Ms (by omega) hM ⟨by omega, hno⟩))))) (fun j hj ej => br_f qx_10 (nm_r (nI_1 i) (k M (qk_Mn hM (fun F => F.2 j hj ej))))))))))⟩
theorem qw_st {post : Int32 → Prop} {u : SX} {w : Nat} (hw : w ≤ 128) (k : post 0) : wpX_isStray post u (nI w) := by
  obtain ⟨l, b, e, x, H, c⟩ := u
  exact br_f (nI_pos (by omega)) (br_t (nI_le (b := 128) hw (by omega)) k)
theorem qw_s1 {post : Int32 → Prop} {l : Nat} {b x H c : Nat → Int32} {E : Nat → Nat} (hl : l ≤ 4) (D : qz_D l x E) (hE : ∀ p, E p ≤ 128) (kp : post 0) : wpX_strayL1Entries post (nI l, b, fun p => nI (E p), x, H, c) := by
  refine loop_0 (fun n i (_ : Unit) => wX_strayL1Entries_4 post (nI l) b (fun p => nI (E p)) x H c n 0 (nI i)) (fun _ _ => True) 20 () trivial (fun n _ _ => ?_) (fun n i _ hi _ k => ?_)
  · exact br_t (nI_le (a := 20) (by omega) (by omega)) kp
  · refine br_f (nI_ge (b := 20) hi (by omega)) (qw_le hi hl D (fun z => br_t rfl (nm_r (nI_1 i) (k () trivial))) (br_f qx_10 ⟨vp_in_nI hi (by omega), ?_⟩))
    rw [nI_clamp (by omega)]
    exact qw_st (hE i) (br_t rfl (nm_r (nI_1 i) (k () trivial)))
theorem qw_ta {post : Int32 → Prop} {u : SX} {M : Int32} {p : Nat} (hp : p < 32) (k0 : bt M p = false → post 0) (k1 : bt M p = true → post 1) : wpX_isTableAt post u M (nI p) := by
  obtain ⟨l, b, e, x, H, c⟩ := u
  refine br_c (fun z => k0 ((qb_at M p hp).mp z)) (fun z => k1 ?_)
  cases hb : bt M p with
  | true => rfl
  | false => exact absurd ((qb_at M p hp).mpr hb) z
theorem qw_se {post : Int32 → Prop} {l : Int32} {b e x H c : Nat → Int32} {t : Nat} (ht : t < 128) (hrow : ∀ i, i < 4 → H (t * 4 + i) = nI (qr_T H (t * 4 + i)) ∧ qr_T H (t * 4 + i) ≤ 128) (kp : post 0) : wpX_strayEntriesIn post (l, b, e, x, H, c) (nI t) := by
  refine loop_0 (fun n i (_ : Unit) => wX_strayEntriesIn_4 post (nI t) l b e x H c n 0 (nI i)) (fun _ _ => True) 4 () trivial (fun n _ _ => ?_) (fun n i _ hi _ k => ?_)
  · exact br_t (nI_le (a := 4) (by omega) (by omega)) kp
  · refine br_f (nI_ge (b := 4) hi (by omega)) ⟨qx_in (by omega) (by omega), ?_⟩
    rw [qx_cl (by omega), (hrow i hi).1]
    exact qw_st (hrow i hi).2 (br_t rfl (nm_r (nI_1 i) (k () trivial)))
theorem qw_s2 {post : Int32 → Prop} {l : Int32} {b x H c : Nat → Int32} {E : Nat → Nat} {M : Int32} (P : qr_PI E H) (hM : qk_M E 20 M) (kp : post 0) : wpX_strayL2Entries post (l, b, fun p => nI (E p), x, H, c) M := by
  refine loop_0 (fun n i (_ : Unit) => wX_strayL2Entries_4 post M l b (fun p => nI (E p)) x H c n 0 (nI i)) (fun _ _ => True) 20 () trivial (fun n _ _ => ?_) (fun n i _ hi _ k => ?_)
  · exact br_t (nI_le (a := 20) (by omega) (by omega)) kp
  · refine br_f (nI_ge (b := 20) hi (by omega)) (qw_ta (by omega) (fun _ => br_t rfl (nm_r (nI_1 i) (k () trivial))) (fun z => br_f qx_10 ⟨vp_in_nI hi (by omega), ?_⟩))
    have F := ((hM i (by omega)).mp z).2
    have e : E i = (E i - 1) + 1 := by have := F.1; omega
    have L : qr_Lv E (E i - 1) := ⟨i, hi, e⟩
    have ea : (fun p => nI (E p)) (nI i).toNatClampNeg - 1 = nI (E i - 1) := by
      rw [nI_clamp (by omega)]
      show nI (E i) - 1 = nI (E i - 1)
      rw [e, nI_pred, Nat.add_sub_cancel]
    rw [ea]
    exact qw_se (qr_Lt P L) (fun j hj => ⟨(P.2 _ L j hj).1, (P.2 _ L j hj).2.1⟩) (nm_r (e' := 0) rfl (nm_r (nI_1 i) (k () trivial)))
theorem qw_ni {post : Int32 → Prop} {l : Int32} {b e x H c : Nat → Int32} {t h : Nat} (ht : t < 128) (hh : h < 128) (hrow : ∀ i, i < 4 → H (t * 4 + i) = nI (qr_T H (t * 4 + i)) ∧ qr_T H (t * 4 + i) ≤ 128) (kp : post (nI (qr_nT H t h))) : wpX_namingsIn post (l, b, e, x, H, c) (nI t) (nI h) := by
  refine loop_0 (fun n i (_ : Unit) => wX_namingsIn_5 post (nI t) (nI h) l b e x H c n (nI (qr_p H t h i)) (nI i)) (fun _ _ => True) 4 () trivial (fun n _ _ => ?_) (fun n i _ hi _ k => ?_)
  · exact br_t (nI_le (a := 4) (by omega) (by omega)) kp
  · have R := hrow i hi
    refine br_f (nI_ge (b := 4) hi (by omega)) ⟨qx_in (by omega) (by omega), ?_⟩
    rw [qx_cl (by omega), R.1, nI_1 h]
    by_cases y : qr_T H (t * 4 + i) = h + 1
    · have e : nI (qr_p H t h i) + 1 = nI (qr_p H t h (i + 1)) := by
        rw [qr_pw y, qs_b1 rfl, nI_1]
      exact br_t (congrArg nI y) (nm_r e (nm_r (nI_1 i) (k () trivial)))
    · have e : nI (qr_p H t h i) = nI (qr_p H t h (i + 1)) := by
        rw [qr_ps, qs_b0 y, Nat.add_zero]
      rw [e]
      exact br_f (fun v => y ((nI_eq (by omega) (by omega)).mp v)) (nm_r (nI_1 i) (k () trivial))
theorem qw_r37 {post : Int32 → Prop} {J : Int32 → Int32 → Prop} {l : Int32} {b x H c : Nat → Int32} {E : Nat → Nat} {M : Int32} {h i a : Nat} (P : qr_PI E H) (hM : qk_M E 20 M) (hi : i < 20) (hh : h < 128) (kp : J (nI (a + qk_w E (fun t => qr_nT H t h) i)) (nI (i + 1))) : wX_references_37 post J (nI h) M (nI a) (nI i) l b (fun p => nI (E p)) x H c := by
  have hM' := hM i (by omega)
  refine qw_ta (by omega) (fun z => br_t rfl (nm_r (nI_1 i) ?_)) (fun z => br_f qx_10 ⟨vp_in_nI hi (by omega), ?_⟩)
  · have F : ¬ qk_F E i := by
      intro F
      have := hM'.mpr ⟨hi, F⟩
      rw [z] at this
      exact absurd this (by decide)
    rw [qk_w0 F, Nat.add_zero] at kp
    exact kp
  · have F := (hM'.mp z).2
    have e : E i = (E i - 1) + 1 := by have := F.1; omega
    have L : qr_Lv E (E i - 1) := ⟨i, hi, e⟩
    have ea : (fun p => nI (E p)) (nI i).toNatClampNeg - 1 = nI (E i - 1) := by
      rw [nI_clamp (by omega)]
      show nI (E i) - 1 = nI (E i - 1)
      rw [e, nI_pred, Nat.add_sub_cancel]
    rw [ea]
    rw [qk_w1 F] at kp
    exact qw_ni (qr_Lt P L) hh (fun j hj => ⟨(P.2 _ L j hj).1, (P.2 _ L j hj).2.1⟩) (nm_r (nI_add a _) (nm_r (nI_1 i) kp))
theorem qw_rf {post : Int32 → Prop} {l : Nat} {b x H c : Nat → Int32} {E : Nat → Nat} {M : Int32} {h : Nat} (hl : l ≤ 4) (D : qz_D l x E) (P : qr_PI E H) (hM : qk_M E 20 M) (hh : h < 128) (kp : post (nI (qr_ref E H h))) : wpX_references post (nI l, b, fun p => nI (E p), x, H, c) (nI h) M := by
  have hw : ∀ i, qs_sm (fun p => qs_b (E p) (h + 1) + qk_w E (fun t => qr_nT H t h) p) (i + 1) = qs_sm (fun p => qs_b (E p) (h + 1) + qk_w E (fun t => qr_nT H t h) p) i + (qs_b (E i) (h + 1) + qk_w E (fun t => qr_nT H t h) i) := fun i => rfl
  refine loop_0 (fun n i (_ : Unit) => wX_references_5 post (nI h) M (nI l) b (fun p => nI (E p)) x H c n (nI (qs_sm (fun p => qs_b (E p) (h + 1) + qk_w E (fun t => qr_nT H t h) p) i)) (nI i)) (fun _ _ => True) 20 () trivial (fun n _ _ => ?_) (fun n i _ hi _ k => ?_)
  · refine br_t (nI_le (a := 20) (by omega) (by omega)) ?_
    rw [qk_ref P.1]
    exact kp
  · have k' := k () trivial
    rw [hw i] at k'
    refine br_f (nI_ge (b := 20) hi (by omega)) (qw_le hi hl D (fun z => br_t rfl (qw_r37 P hM hi hh ?_)) (br_f qx_10 ⟨vp_in_nI hi (by omega), ?_⟩))
    · rw [z, qs_b0 (a := 0) (b := h + 1) (by omega), Nat.zero_add] at k'
      exact k'
    · have a := P.1 i
      rw [nI_clamp (by omega), nI_1 h]
      by_cases y : E i = h + 1
      · refine br_t (congrArg nI y) (nm_r (nI_1 _) (qw_r37 P hM hi hh ?_))
        rw [qs_b1 y, ← Nat.add_assoc] at k'
        exact k'
      · refine br_f (fun v => y ((nI_eq (by omega) (by omega)).mp v)) (qw_r37 P hM hi hh ?_)
        rw [qs_b0 y, Nat.zero_add] at k'
        exact k'
theorem qw_ck {post : Int32 → Prop} {l : Nat} {b x H : Nat → Int32} {E : Nat → Nat} (hl : l ≤ 4) (D : qz_D l x E) (P : qr_PI E H) (kp : post 0) : wpX_check post (nI l, b, fun p => nI (E p), x, H, fun h => nI (qr_ref E H h)) := by
  refine qw_lt hl D P.1 (fun M hM => qw_s1 hl D P.1 (qw_s2 P hM (nm_r (e' := 0) rfl ?_)))
  refine loop_0 (fun n i (_ : Unit) => wX_check_18 post M (nI l) b (fun p => nI (E p)) x H (fun h => nI (qr_ref E H h)) n 0 (nI i)) (fun _ _ => True) 128 () trivial (fun n _ _ => ?_) (fun n i _ hi _ k => ?_)
  · exact br_t (nI_le (a := 128) (by omega) (by omega)) kp
  · refine br_f (nI_ge (b := 128) hi (by omega)) ⟨vp_in_nI hi (by omega), qw_rf hl D P hM hi (br_t ?_ (nm_r (nI_1 i) (k () trivial)))⟩
    rw [nI_clamp (by omega)]
end
section
theorem qx_ix16 (a i : Nat) : nI a * 16 + nI i = nI (a * 16 + i) := by
  show nI a * nI 16 + nI i = nI (a * 16 + i)
  rw [pk_mul, nI_add]
theorem qx_ix64 (a i : Nat) : nI a * 64 + nI i = nI (a * 64 + i) := by
  show nI a * nI 64 + nI i = nI (a * 64 + i)
  rw [pk_mul, nI_add]
theorem qh_step0 {A W : Nat → Int32} {n : Nat} {x : Int32} (hx : x = W n) : upd (qh_s A 0 W n) n x = qh_s A 0 W (n + 1) := by
  have h := qh_step (A := A) (W := W) (o := 0) (n := n) hx
  rw [Nat.zero_add] at h
  exact h
theorem qy_w26 {post : Int32 → SY → Prop} {l : Int32} {b aA aD sE sA sD : Nat → Int32} {a g : Nat} {y : Int32} (hg : g < 16) (ha : a < 64) (k : post 1 (l, b, upd aA g 1, upd (qh_s aD (g * 4) (fun i => b (g * 4 + i)) 4) a y, sE, sA, sD)) : ∃ n, wY_write_26 post (nI a) y (nI g) l n 0 b aA aD sE sA sD := by
  refine loop_0 (fun n i (s : Nat → Int32) => wY_write_26 post (nI a) y (nI g) l n (nI i) b aA s sE sA sD) (fun i s => s = qh_s aD (g * 4) (fun i => b (g * 4 + i)) i) 4 aD (qh_0 _ _ _).symm (fun n s hs => ?_) (fun n i s hi hs kk => ?_)
  · rw [hs]
    have e1 : upd aA (nI g).toNatClampNeg (vp_nar .boolean 1) = upd aA g 1 := by rw [nI_clamp (by omega), qx_vb1]
    have e2 : upd (qh_s aD (g * 4) (fun i => b (g * 4 + i)) 4) (nI a).toNatClampNeg y = upd (qh_s aD (g * 4) (fun i => b (g * 4 + i)) 4) a y := by rw [nI_clamp (by omega)]
    exact br_t (nI_le (a := 4) (by omega) (by omega)) ⟨vp_in_nI hg (by omega), nm_r e1 ⟨vp_in_nI ha (by omega), nm_r e2 k⟩⟩
  · have he : upd s (nI g * 4 + nI i).toNatClampNeg (b (nI g * 4 + nI i).toNatClampNeg) = qh_s aD (g * 4) (fun i => b (g * 4 + i)) (i + 1) := by
      rw [qx_cl (by omega), hs]
      exact qh_step rfl
    exact br_f (nI_ge (b := 4) hi (by omega)) ⟨qx_in (by omega) (by omega), qx_in (by omega) (by omega), nm_r he (nm_r (nI_1 i) (kk _ rfl))⟩
theorem qy_wr0 {post : Int32 → SY → Prop} {l : Nat} {b aA aD sE sA sD : Nat → Int32} {a : Nat} {y : Int32} (hl : l ≤ 4) (ha : a < l * 16) (h0 : aA (a / 4) = 0) (k : post 1 (nI l, b, upd aA (a / 4) 1, upd (qh_s aD (a / 4 * 4) (fun i => b (a / 4 * 4 + i)) 4) a y, sE, sA, sD)) : wpY_write post (nI l, b, aA, aD, sE, sA, sD) (nI a) y := by
  unfold wpY_write
  dsimp only
  refine qy_ba0 hl ha (br_t rfl ⟨qx_40, nm_r (qx_d4 (by omega)) ⟨vp_in_nI (by omega) (by omega), br_t ?_ (qy_w26 (by omega) (by omega) k)⟩⟩)
  rw [nI_clamp (by omega)]
  exact h0
theorem qy_wr1 {post : Int32 → SY → Prop} {l : Nat} {b aA aD sE sA sD : Nat → Int32} {a : Nat} {y : Int32} (hl : l ≤ 4) (ha : a < l * 16) (h1 : aA (a / 4) = 1) (k : post 1 (nI l, b, aA, upd aD a y, sE, sA, sD)) : wpY_write post (nI l, b, aA, aD, sE, sA, sD) (nI a) y := by
  unfold wpY_write
  dsimp only
  have e2 : upd aD (nI a).toNatClampNeg y = upd aD a y := by rw [nI_clamp (by omega)]
  refine qy_ba0 hl ha (br_t rfl ⟨qx_40, nm_r (qx_d4 (by omega)) ⟨vp_in_nI (by omega) (by omega), br_f ?_ ⟨vp_in_nI (by omega) (by omega), nm_r e2 k⟩⟩⟩)
  rw [nI_clamp (by omega), h1]
  exact qx_10
theorem qy_rd {post : Int32 → Prop} {l : Nat} {b aA aD sE sA sD : Nat → Int32} {a : Nat} (hl : l ≤ 4) (ha : a < l * 16) (k0 : aA (a / 4) = 0 → post (b a)) (k1 : aA (a / 4) ≠ 0 → post (aD a)) : wpY_read post (nI l, b, aA, aD, sE, sA, sD) (nI a) := by
  unfold wpY_read
  dsimp only
  rw [qx_d4 (by omega), nI_clamp (by omega), nI_clamp (by omega)]
  exact qy_ba0 hl ha (br_t rfl ⟨qx_40, vp_in_nI (by omega) (by omega), br_c (fun z => ⟨vp_in_nI (by omega) (by omega), k0 z⟩) (fun z => ⟨vp_in_nI (by omega) (by omega), k1 z⟩)⟩)
theorem qy_sc53 {post : Int32 → SY → Prop} {l : Int32} {b aA aD sE sA sD : Nat → Int32} {s : Nat} (hs : s < 4) (k : post 1 (l, b, aA, aD, upd sE s 1, sA, qh_s sD (s * 64) aD 64)) : ∃ n, wY_snapshotCreate_53 post (nI s) l n 0 b aA aD sE sA sD := by
  refine loop_0 (fun n i (t : Nat → Int32) => wY_snapshotCreate_53 post (nI s) l n (nI i) b aA aD sE sA t) (fun i t => t = qh_s sD (s * 64) aD i) 64 sD (qh_0 _ _ _).symm (fun n t ht => ?_) (fun n i t hi ht kk => ?_)
  · rw [ht]
    have e1 : upd sE (nI s).toNatClampNeg (vp_nar .boolean 1) = upd sE s 1 := by rw [nI_clamp (by omega), qx_vb1]
    exact br_t (nI_le (a := 64) (by omega) (by omega)) ⟨vp_in_nI hs (by omega), nm_r e1 k⟩
  · have he : upd t (nI s * 64 + nI i).toNatClampNeg (aD (nI i).toNatClampNeg) = qh_s sD (s * 64) aD (i + 1) := by
      rw [qx_ix64, nI_clamp (by omega), nI_clamp (by omega), ht]
      exact qh_step rfl
    refine br_f (nI_ge (b := 64) hi (by omega)) ⟨vp_in_nI hi (by omega), ?_, nm_r he (nm_r (nI_1 i) (kk _ rfl))⟩
    rw [qx_ix64]
    exact vp_in_nI (by omega) (by omega)
theorem qy_sc {post : Int32 → SY → Prop} {l : Int32} {b aA aD sE sA sD : Nat → Int32} {s : Nat} (hs : s < 4) (hA : ∀ c, c < 16 → aA c = 0 ∨ aA c = 1) (h0 : sE s = 0) (k : post 1 (l, b, aA, aD, upd sE s 1, qh_s sA (s * 16) aA 16, qh_s sD (s * 64) aD 64)) : wpY_snapshotCreate post (l, b, aA, aD, sE, sA, sD) (nI s) := by
  unfold wpY_snapshotCreate
  dsimp only
  refine br_f (nI_pos (by omega)) (br_f (nI_ge (b := 4) hs (by omega)) ⟨vp_in_nI hs (by omega), br_t ?_ ?_⟩)
  · rw [nI_clamp (by omega)]
    exact h0
  · refine loop_0 (fun n i (t : Nat → Int32) => wY_snapshotCreate_22 post (nI s) l n (nI i) b aA aD sE t sD) (fun i t => t = qh_s sA (s * 16) aA i) 16 sA (qh_0 _ _ _).symm (fun n t ht => ?_) (fun n i t hi ht kk => ?_)
    · rw [ht]
      exact br_t (nI_le (a := 16) (by omega) (by omega)) (qy_sc53 hs k)
    · have he : upd t (nI s * 16 + nI i).toNatClampNeg (vp_nar .boolean (aA (nI i).toNatClampNeg)) = qh_s sA (s * 16) aA (i + 1) := by
        rw [qx_ix16, nI_clamp (by omega), nI_clamp (by omega), ht, qx_vb (hA i hi)]
        exact qh_step rfl
      refine br_f (nI_ge (b := 16) hi (by omega)) ⟨vp_in_nI hi (by omega), ?_, nm_r he (nm_r (nI_1 i) (kk _ rfl))⟩
      rw [qx_ix16]
      exact vp_in_nI (by omega) (by omega)
theorem qy_sa43 {post : Int32 → SY → Prop} {l : Int32} {b aA aD sE sA sD : Nat → Int32} {s : Nat} (hs : s < 4) (k : post 1 (l, b, aA, qh_s aD 0 (fun a => sD (s * 64 + a)) 64, sE, sA, sD)) : ∃ n, wY_snapshotApply_43 post (nI s) l n 0 b aA aD sE sA sD := by
  refine loop_0 (fun n i (t : Nat → Int32) => wY_snapshotApply_43 post (nI s) l n (nI i) b aA t sE sA sD) (fun i t => t = qh_s aD 0 (fun a => sD (s * 64 + a)) i) 64 aD (qh_0 _ _ _).symm (fun n t ht => ?_) (fun n i t hi ht kk => ?_)
  · rw [ht]
    exact br_t (nI_le (a := 64) (by omega) (by omega)) k
  · have he : upd t (nI i).toNatClampNeg (sD (nI s * 64 + nI i).toNatClampNeg) = qh_s aD 0 (fun a => sD (s * 64 + a)) (i + 1) := by
      rw [qx_ix64, nI_clamp (by omega), nI_clamp (by omega), ht]
      exact qh_step0 rfl
    refine br_f (nI_ge (b := 64) hi (by omega)) ⟨?_, vp_in_nI hi (by omega), nm_r he (nm_r (nI_1 i) (kk _ rfl))⟩
    rw [qx_ix64]
    exact vp_in_nI (by omega) (by omega)
theorem qy_sa {post : Int32 → SY → Prop} {l : Int32} {b aA aD sE sA sD : Nat → Int32} {s : Nat} (hs : s < 4) (h1 : sE s = 1) (hA : ∀ c, c < 16 → sA (s * 16 + c) = 0 ∨ sA (s * 16 + c) = 1) (k : post 1 (l, b, qh_s aA 0 (fun c => sA (s * 16 + c)) 16, qh_s aD 0 (fun a => sD (s * 64 + a)) 64, sE, sA, sD)) : wpY_snapshotApply post (l, b, aA, aD, sE, sA, sD) (nI s) := by
  unfold wpY_snapshotApply
  dsimp only
  refine qy_bs0 hs h1 (br_t rfl ?_)
  refine loop_0 (fun n i (t : Nat → Int32) => wY_snapshotApply_12 post (nI s) l n (nI i) b t aD sE sA sD) (fun i t => t = qh_s aA 0 (fun c => sA (s * 16 + c)) i) 16 aA (qh_0 _ _ _).symm (fun n t ht => ?_) (fun n i t hi ht kk => ?_)
  · rw [ht]
    exact br_t (nI_le (a := 16) (by omega) (by omega)) (qy_sa43 hs k)
  · have he : upd t (nI i).toNatClampNeg (vp_nar .boolean (sA (nI s * 16 + nI i).toNatClampNeg)) = qh_s aA 0 (fun c => sA (s * 16 + c)) (i + 1) := by
      rw [qx_ix16, nI_clamp (by omega), nI_clamp (by omega), ht, qx_vb (hA i hi)]
      exact qh_step0 rfl
    refine br_f (nI_ge (b := 16) hi (by omega)) ⟨?_, vp_in_nI hi (by omega), nm_r he (nm_r (nI_1 i) (kk _ rfl))⟩
    rw [qx_ix16]
    exact vp_in_nI (by omega) (by omega)
/-- what is counted and what is copied by the first n clusters -/
def qc_n (aA : Nat → Int32) (n : Nat) : Nat := qs_sm (fun c => if aA c = 0 then 0 else 1) n
def qc_b (b aA aD : Nat → Int32) : Nat → (Nat → Int32)
  | 0 => b
  | n + 1 => if aA n = 0 then qc_b b aA aD n else qh_s (qc_b b aA aD n) (n * 4) (fun i => aD (n * 4 + i)) 4
theorem qc_n0 {aA : Nat → Int32} {n : Nat} (h : aA n = 0) : qc_n aA (n + 1) = qc_n aA n := by
  show qc_n aA n + (if aA n = 0 then 0 else 1) = qc_n aA n
  rw [if_pos h, Nat.add_zero]
theorem qc_n1 {aA : Nat → Int32} {n : Nat} (h : ¬ aA n = 0) : qc_n aA (n + 1) = qc_n aA n + 1 := by
  show qc_n aA n + (if aA n = 0 then 0 else 1) = qc_n aA n + 1
  rw [if_neg h]
theorem qc_b0 {b aA aD : Nat → Int32} {n : Nat} (h : aA n = 0) : qc_b b aA aD (n + 1) = qc_b b aA aD n := if_pos h
theorem qc_b1 {b aA aD : Nat → Int32} {n : Nat} (h : ¬ aA n = 0) : qc_b b aA aD (n + 1) = qh_s (qc_b b aA aD n) (n * 4) (fun i => aD (n * 4 + i)) 4 := if_neg h
theorem qy_ac {post : Int32 → Prop} {l : Nat} {b aA aD sE sA sD : Nat → Int32} (hl : l ≤ 4) (k : post (nI (qc_n aA (l * 4)))) : wpY_allocatedCount post (nI l, b, aA, aD, sE, sA, sD) := by
  refine loop_0 (fun n i (_ : Unit) => wY_allocatedCount_4 post (nI l) b aA aD sE sA sD n (nI (qc_n aA i)) (nI i)) (fun _ _ => True) (l * 4) () trivial (fun n _ _ => ?_) (fun n i _ hi _ kk => ?_)
  · refine br_t ?_ k
    rw [qx_n4]
    exact nI_le (Nat.le_refl _) (by omega)
  · have k' := kk () trivial
    refine br_f ?_ ⟨vp_in_nI (by omega) (by omega), ?_⟩
    · rw [qx_n4]
      exact nI_ge hi (by omega)
    · rw [nI_clamp (by omega)]
      refine br_c (fun z => nm_r (nI_1 i) ?_) (fun z => nm_r (nI_1 _) (nm_r (nI_1 i) ?_))
      · rw [qc_n0 z] at k'
        exact k'
      · rw [qc_n1 z] at k'
        exact k'
theorem qw_ac {post : Int32 → Prop} {l : Nat} {b x c H aA aD : Nat → Int32} {E : Nat → Nat} (hl : l ≤ 4) (P : qr_PI E H) (V : qv_V E H 4 aA aD) (k : post (nI (qc_n aA (l * 4)))) : wpX_allocatedCount post (nI l, b, fun p => nI (E p), x, H, c) := by
  refine loop_0 (fun n i (_ : Unit) => wX_allocatedCount_4 post (nI l) b (fun p => nI (E p)) x H c n (nI (qc_n aA i)) (nI i)) (fun _ _ => True) (l * 4) () trivial (fun n _ _ => ?_) (fun n i _ hi _ kk => ?_)
  · refine br_t ?_ k
    rw [qx_m4]
    exact nI_le (Nat.le_refl _) (by omega)
  · have k' := kk () trivial
    refine br_f ?_ (qw_ai (v := 4) P (by omega) (by omega) (fun z => br_t rfl (nm_r (nI_1 i) ?_)) (fun d z => br_f qx_10 (nm_r (nI_1 _) (nm_r (nI_1 i) ?_))))
    · rw [qx_m4]
      exact nI_ge hi (by omega)
    · have f0 : aA i = 0 := by
        cases V i (by omega) with
        | inl a => exact a.2
        | inr a => obtain ⟨e, he, _, _⟩ := a; omega
      rw [qc_n0 f0] at k'
      exact k'
    · have f1 : ¬ aA i = 0 := by
        cases V i (by omega) with
        | inl a => omega
        | inr a => obtain ⟨e, _, he, _⟩ := a; rw [he]; exact qx_10
      rw [qc_n1 f1] at k'
      exact k'
theorem qy_cm67 {post : Int32 → SY → Prop} {l y : Int32} {b aA aD sE sA sD : Nat → Int32} (k : post y (l, b, qh_s aA 0 (fun _ => 0) 16, aD, sE, sA, sD)) : ∃ n, wY_commit_67 post y l n 0 b aA aD sE sA sD := by
  refine loop_0 (fun n i (t : Nat → Int32) => wY_commit_67 post y l n (nI i) b t aD sE sA sD) (fun i t => t = qh_s aA 0 (fun _ => 0) i) 16 aA (qh_0 _ _ _).symm (fun n t ht => ?_) (fun n i t hi ht kk => ?_)
  · rw [ht]
    exact br_t (nI_le (a := 16) (by omega) (by omega)) k
  · have he : upd t (nI i).toNatClampNeg (vp_nar .boolean 0) = qh_s aA 0 (fun _ => 0) (i + 1) := by
      rw [nI_clamp (by omega), ht, qx_vb0]
      exact qh_step0 rfl
    exact br_f (nI_ge (b := 16) hi (by omega)) ⟨vp_in_nI hi (by omega), nm_r he (nm_r (nI_1 i) (kk _ rfl))⟩
theorem qy_cm25 {post : Int32 → SY → Prop} {J : Int32 → Int32 → (Nat → Int32) → (Nat → Int32) → (Nat → Int32) → (Nat → Int32) → (Nat → Int32) → (Nat → Int32) → Prop} {l : Int32} {b aA aD sE sA sD : Nat → Int32} {m g : Nat} (hg : g < 16) (k : J (nI (m + 1)) (nI (g + 1)) (qh_s b (g * 4) (fun i => aD (g * 4 + i)) 4) aA aD sE sA sD) : ∃ n, wY_commit_25 post J (nI m) (nI g) l n 0 b aA aD sE sA sD := by
  refine loop_0 (fun n i (t : Nat → Int32) => wY_commit_25 post J (nI m) (nI g) l n (nI i) t aA aD sE sA sD) (fun i t => t = qh_s b (g * 4) (fun i => aD (g * 4 + i)) i) 4 b (qh_0 _ _ _).symm (fun n t ht => ?_) (fun n i t hi ht kk => ?_)
  · rw [ht]
    exact br_t (nI_le (a := 4) (by omega) (by omega)) (nm_r (nI_1 m) (nm_r (nI_1 g) k))
  · have he : upd t (nI g * 4 + nI i).toNatClampNeg (aD (nI g * 4 + nI i).toNatClampNeg) = qh_s b (g * 4) (fun i => aD (g * 4 + i)) (i + 1) := by
      rw [qx_cl (by omega), ht]
      exact qh_step rfl
    exact br_f (nI_ge (b := 4) hi (by omega)) ⟨qx_in (by omega) (by omega), qx_in (by omega) (by omega), nm_r he (nm_r (nI_1 i) (kk _ rfl))⟩
theorem qy_cm {post : Int32 → SY → Prop} {l : Nat} {b aA aD sE sA sD : Nat → Int32} (hl : l ≤ 4) (k : post (nI (qc_n aA (l * 4))) (nI l, qc_b b aA aD (l * 4), qh_s aA 0 (fun _ => 0) 16, aD, sE, sA, sD)) : wpY_commit post (nI l, b, aA, aD, sE, sA, sD) := by
  refine loop_0 (fun n i (_ : Unit) => wY_commit_4 post (nI l) n (nI (qc_n aA i)) (nI i) (qc_b b aA aD i) aA aD sE sA sD) (fun _ _ => True) (l * 4) () trivial (fun n _ _ => ?_) (fun n i _ hi _ kk => ?_)
  · refine br_t ?_ (qy_cm67 k)
    rw [qx_n4]
    exact nI_le (Nat.le_refl _) (by omega)
  · have k' := kk () trivial
    refine br_f ?_ ⟨vp_in_nI (by omega) (by omega), ?_⟩
    · rw [qx_n4]
      exact nI_ge hi (by omega)
    · rw [nI_clamp (by omega)]
      refine br_c (fun z => nm_r (nI_1 i) ?_) (fun z => qy_cm25 (by omega) ?_)
      · rw [qc_n0 z, qc_b0 z] at k'
        exact k'
      · rw [qc_n1 z, qc_b1 z] at k'
        exact k'
theorem qw_cm {post : Int32 → SX → Prop} {l : Nat} {b x c H aA aD : Nat → Int32} {E : Nat → Nat} (hl : l ≤ 4) (P : qr_PI E H) (V : qv_V E H 4 aA aD) (k : wpX_releaseTables (fun u => post (nI (qc_n aA (l * 4))) u) (nI l, qc_b b aA aD (l * 4), fun p => nI (E p), x, H, c) (nI 4)) : wpX_commit post (nI l, b, fun p => nI (E p), x, H, c) := by
  refine loop_0 (fun n i (_ : Unit) => wX_commit_4 post n (nI (qc_n aA i)) (nI i) (nI l) (qc_b b aA aD i) (fun p => nI (E p)) x H c) (fun _ _ => True) (l * 4) () trivial (fun n _ _ => ?_) (fun n i _ hi _ kk => ?_)
  · refine br_t ?_ k
    rw [qx_m4]
    exact nI_le (Nat.le_refl _) (by omega)
  · have k' := kk () trivial
    refine br_f ?_ (qw_de (v := 4) P (by omega) (by omega) (qw_nh (qv_dle P (by omega) (by omega)) (fun z => br_t rfl (nm_r (nI_1 i) ?_)) (fun d z => br_f qx_10 ?_)))
    · rw [qx_m4]
      exact nI_ge hi (by omega)
    · have f0 : aA i = 0 := by
        cases V i (by omega) with
        | inl a => exact a.2
        | inr a => obtain ⟨e, he, _, _⟩ := a; omega
      rw [qc_n0 f0, qc_b0 f0] at k'
      exact k'
    · have f1 : ¬ aA i = 0 ∧ ∀ j, j < 4 → H (d * 4 + j) = aD (i * 4 + j) := by
        cases V i (by omega) with
        | inl a => omega
        | inr a =>
          obtain ⟨e, h1, he, h2⟩ := a
          have ee : e = d := by omega
          rw [ee] at h2
          exact ⟨by rw [he]; exact qx_10, h2⟩
      have hd : d < 128 := by have := qv_dle P (v := 4) (c := i) (by omega) (by omega); omega
      rw [qc_n1 f1.1, qc_b1 f1.1] at k'
      rw [z, nI_pred]
      refine qw_toB (by omega) hd (nm_r (nI_1 _) (nm_r (nI_1 i) ?_))
      rw [qh_cong (W := fun j => H (d * 4 + j)) (W' := fun j => aD (i * 4 + j)) f1.2]
      exact k'
end
section
theorem qz_updv {x : Nat → Int32} {s : Nat} {y : Int32} (h : x s = y) : upd x s y = x := by
  funext j
  by_cases e : j = s
  · rw [e, h]; exact pk_us
  · exact pk_un e
theorem qv_at {E : Nat → Nat} {H : Nat → Int32} {v : Nat} {fl wd : Nat → Int32} (V : qv_V E H v fl wd) {a : Nat} (ha : a < 64) : (qv_de E H v (a / 4) = 0 ∧ fl (a / 4) = 0) ∨ (∃ e, qv_de E H v (a / 4) = e + 1 ∧ fl (a / 4) = 1 ∧ H (e * 4 + a % 4) = wd a) := by
  cases V (a / 4) (by omega) with
  | inl h => exact Or.inl h
  | inr h =>
    obtain ⟨e, h1, h2, h3⟩ := h
    refine Or.inr ⟨e, h1, h2, ?_⟩
    have h4 : H (e * 4 + a % 4) = wd (a / 4 * 4 + a % 4) := h3 (a % 4) (by omega)
    rw [Nat.div_add_mod'] at h4
    exact h4
/-- the active image after a write -/
theorem qz_wr {E E' : Nat → Nat} {H H2 aA aD sE sA sD aA' aD0 : Nat → Int32} {a d : Nat} {y : Int32} (ha : a < 64) (W : qz_W E H aA aD sE sA sD) (S : ∀ v c', v < 5 → c' < 16 → (v ≠ 4 ∨ c' ≠ a / 4) → qv_S E H E' (upd H2 (d * 4 + a % 4) y) v c') (hde : qv_de E' (upd H2 (d * 4 + a % 4) y) 4 (a / 4) = d + 1) (hA1 : aA' (a / 4) = 1) (hA : ∀ c', c' < 16 → c' ≠ a / 4 → aA' c' = aA c') (hD : ∀ c', c' < 16 → c' ≠ a / 4 → ∀ i, i < 4 → aD0 (c' * 4 + i) = aD (c' * 4 + i)) (hw : ∀ i, i < 4 → H2 (d * 4 + i) = aD0 (a / 4 * 4 + i)) : qz_W E' (upd H2 (d * 4 + a % 4) y) aA' (upd aD0 a y) sE sA sD := by
  refine qz_cell (c := a / 4) (by omega) W S hA (fun c' hc' hn i hi => ?_) (Or.inr ⟨d, hde, hA1, fun i hi => ?_⟩)
  · rw [← hD c' hc' hn i hi]
    exact pk_un (by omega)
  · show upd H2 (d * 4 + a % 4) y (d * 4 + i) = upd aD0 a y (a / 4 * 4 + i)
    by_cases e : i = a % 4
    · have e2 : a / 4 * 4 + i = a := by omega
      rw [e2, e]
      exact pk_us.trans pk_us.symm
    · refine (pk_un (by omega)).trans ?_
      refine (hw i hi).trans ?_
      exact (pk_un (by omega)).symm
theorem qz_x {sE x : Nat → Int32} {s : Nat} {y : Int32} (hy : y = 0 ∨ y = 1) (h : ∀ s, s < 4 → x s = sE s ∧ (sE s = 0 ∨ sE s = 1)) : ∀ s', s' < 4 → upd x s y s' = upd sE s y s' ∧ (upd sE s y s' = 0 ∨ upd sE s y s' = 1) := by
  intro s' hs'
  by_cases e : s' = s
  · rw [e]
    exact ⟨pk_us.trans pk_us.symm, by rw [pk_us]; exact hy⟩
  · rw [pk_un e, pk_un e]
    exact h s' hs'
/-- the entries of a view past its size are 0, and so are a dead view's -/
theorem qz_tail {l v j : Nat} {x : Nat → Int32} {E : Nat → Nat} (D : qz_D l x E) (hv : v < 5) (hj : j < 4) (h : l ≤ j ∨ x v ≠ 1) : E (v * 4 + j) = 0 := by
  by_cases z : E (v * 4 + j) = 0
  · exact z
  · have a := D (v * 4 + j) (by omega) z
    have e : (v * 4 + j) / 4 = v := by omega
    rw [e] at a
    cases h with
    | inl h => omega
    | inr h => exact absurd a.2 h
theorem qz_sh4 {l f s : Nat} {x : Nat → Int32} {E E' : Nat → Nat} (D : qz_D l x E) (hf : f < 5) (hs : s < 5) (h0 : ∀ j, j < 4 → E (s * 4 + j) = 0) (e1 : ∀ j, j < l → E' (s * 4 + j) = E (f * 4 + j)) (e2 : ∀ p, (p < s * 4 ∨ s * 4 + l ≤ p) → E' p = E p) : ∀ j, j < 4 → E' (s * 4 + j) = E (f * 4 + j) := by
  intro j hj
  by_cases z : j < l
  · exact e1 j z
  · rw [e2 _ (by omega), h0 j hj, qz_tail D hf hj (Or.inl (by omega))]
theorem qz_rl4 {l v : Nat} {x : Nat → Int32} {E E' : Nat → Nat} (D : qz_D l x E) (hv : v < 5) (e1 : ∀ j, j < l → E' (v * 4 + j) = 0) (e2 : ∀ p, (p < v * 4 ∨ v * 4 + l ≤ p) → E' p = E p) : ∀ j, j < 4 → E' (v * 4 + j) = 0 := by
  intro j hj
  by_cases z : j < l
  · exact e1 j z
  · rw [e2 _ (by omega), qz_tail D hv hj (Or.inl (by omega))]
end
section
def i_Rel (k : Nat) (u : SX) (v : SY) : Prop := ∃ (l : Nat) (E : Nat → Nat) (b x H aA aD sE sA sD : Nat → Int32), u = (nI l, b, fun p => nI (E p), x, H, fun h => nI (qr_ref E H h)) ∧ v = (nI l, b, aA, aD, sE, sA, sD) ∧ qz_R l E H x aA aD sE sA sD
theorem i_up {k : Nat} {u : SX} {v : SY} (h : i_Rel k u v) : i_Rel (k + 3) u v := h
theorem i_vc0 (k0 : Int32) : wpX_init (fun u => wpY_init (fun v => i_Rel 1 u v) k0) k0 := by
  have e4 : upd (fun _ => (0 : Int32)) 4 (vp_nar .boolean 1) 4 = 1 := by rw [qx_vb1]; exact pk_us
  have e0 : ∀ s, s < 4 → upd (fun _ => (0 : Int32)) 4 (vp_nar .boolean 1) s = 0 := fun s hs => pk_un (by omega)
  have F : ∀ l : Nat, 1 ≤ l ∧ l ≤ 4 → i_Rel 1 (nI l, (fun _ => 0), (fun _ => 0), upd (fun _ => (0 : Int32)) 4 (vp_nar .boolean 1), (fun _ => 0), (fun _ => 0)) (nI l, (fun _ => 0), (fun _ => 0), (fun _ => 0), (fun _ => 0), (fun _ => 0), (fun _ => 0)) := by
    intro l hl
    refine ⟨l, (fun _ => 0), (fun _ => 0), upd (fun _ => (0 : Int32)) 4 (vp_nar .boolean 1), (fun _ => 0), (fun _ => 0), (fun _ => 0), (fun _ => 0), (fun _ => 0), (fun _ => 0), ?_, rfl, qz_init hl e4 e0⟩
    rw [← qz_cnt0]
    rfl
  by_cases h1 : 1 ≤ k0
  · by_cases h4 : k0 ≤ 4
    · have hn : ¬ k0 < 0 := Int32.not_lt.mpr (Int32.le_trans (by decide) h1)
      obtain ⟨l, hl, e⟩ := nI_of2 (M := 4) (n := 4) (by decide) hn h4
      rw [e] at h1 h4
      rw [e]
      have hl1 : 1 ≤ l := (nI_leI (a := 1) (by omega) (by omega)).mp h1
      exact br_t h1 (br_t h4 (nm_e (br_t h1 (br_t h4 (F l ⟨hl1, hl⟩)))))
    · exact br_t h1 (br_f h4 (nm_e (br_t h1 (br_f h4 (F 4 ⟨by omega, by omega⟩)))))
  · exact br_f h1 (nm_e (br_f h1 (br_t (by decide) (F 1 ⟨by omega, by omega⟩))))
theorem i_vc_guestWords {k : Nat} {u : SX} {v : SY} (I : i_Rel k u v) (hk : k + 3 ≤ 1537) : wpX_guestWords (fun r => wpY_guestWords (fun r' => r' = r ∧ i_Rel (k + 3) u v) v) u := by
  have J := i_up I
  obtain ⟨l, E, b, x, H, aA, aD, sE, sA, sD, rfl, rfl, R⟩ := I
  exact ⟨(qx_n16 l).trans (qx_m16 l).symm, J⟩
theorem i_vc_write {k : Nat} {u : SX} {v : SY} (I : i_Rel k u v) (hk : k + 3 ≤ 1537) (v1 : Int32) (v2 : Int32) : wpX_write (fun r u' => wpY_write (fun r' v' => r' = r ∧ i_Rel (k + 3) u' v') v v1 v2) u v1 v2 := by
  have J := i_up I
  obtain ⟨l, E, b, x, H, aA, aD, sE, sA, sD, rfl, rfl, R⟩ := I
  obtain ⟨hl, P, D, x4, hx, W⟩ := R
  unfold wpX_write
  dsimp only
  rcases qx_split v1 (n := l * 16) (by omega) with h | ⟨a, ha, rfl⟩
  · refine qw_gw0 h (br_t rfl ?_)
    unfold wpY_write
    dsimp only
    exact qy_ba1 h (br_f qx_10 ⟨rfl, J⟩)
  · rw [qx_r4 (by omega)]
    refine qw_gw1 hl.2 ha (br_f qx_10 ⟨qx_40, nm_r (qx_d4 (by omega)) ⟨qx_40, ?_⟩⟩)
    rw [qx_d4 (a := a / 4) (by omega)]
    refine qw_ut (j := a / 4 / 4) P (by omega) (fun E' H' t P' hE' h1 S1 hp => ?_)
    dsimp only
    refine qw_ud (g := a / 4) P' (by omega) hE' h1 (fun H2 d P2 hT hd S2 w0 w1 => ?_)
    dsimp only
    have L : qr_Lv E' t := ⟨_, by omega, hE'⟩
    have ht := qr_Lt P' L
    have hd128 : d < 128 := by have := (P2.2 t L (a / 4 % 4) (by omega)).2.1; omega
    have hu : upd H2 (nI d * 4 + nI (a % 4)).toNatClampNeg v2 = upd H2 (d * 4 + a % 4) v2 := by rw [qx_cl (by omega)]
    refine ⟨qx_40, qx_in (by omega) (by omega), nm_r hu ?_⟩
    obtain ⟨P3, r3, S3, de3⟩ := qt_sto (x := v2) (j := a % 4) P2 (c := a / 4) (by omega) rfl hE' h1 hT hd (by omega)
    have ec : (fun h => nI (qr_ref E' H2 h)) = fun h => nI (qr_ref E' (upd H2 (d * 4 + a % 4) v2) h) := by
      funext h
      rw [r3 h]
    rw [ec]
    have D' : qz_D l x E' := qz_D1 (q := 16 + a / 4 / 4) D ⟨by omega, by rw [show (16 + a / 4 / 4) / 4 = 4 from by omega]; exact x4⟩ hp
    have S : ∀ v c', v < 5 → c' < 16 → (v ≠ 4 ∨ c' ≠ a / 4) → qv_S E H E' (upd H2 (d * 4 + a % 4) v2) v c' := fun v c' hv hc' hn => qv_St (S1 v c' hv hc') (qv_St (S2 v c' hv hc' hn) (S3 v c' hv hc' hn))
    have eT : qr_T H' (t * 4 + a / 4 % 4) = qv_de E H 4 (a / 4) := by
      rw [← (S1 4 (a / 4) (by omega) (by omega)).1]
      exact (qv_det (v := 4) (c := a / 4) hE').symm
    cases W.1 (a / 4) (by omega) with
    | inl f0 =>
      refine qy_wr0 hl.2 ha f0.2 ⟨rfl, ⟨l, E', b, x, _, _, _, sE, sA, sD, rfl, rfl, hl, P3, D', x4, hx, ?_⟩⟩
      refine qz_wr (by omega) W S de3 pk_us (fun c' _ hn => pk_un hn) (fun c' _ hn i hi => qh_out (by omega)) (fun i hi => ?_)
      rw [w0 (eT.trans f0.1) i hi]
      exact (qh_in (W := fun i => b (a / 4 * 4 + i)) hi).symm
    | inr f1 =>
      obtain ⟨e, he, hf, hw⟩ := f1
      refine qy_wr1 hl.2 ha hf ⟨rfl, ⟨l, E', b, x, _, _, _, sE, sA, sD, rfl, rfl, hl, P3, D', x4, hx, ?_⟩⟩
      refine qz_wr (by omega) W S de3 hf (fun c' _ hn => rfl) (fun c' _ hn i hi => rfl) (fun i hi => ?_)
      rw [w1 e (eT.trans he) i hi, (S1 4 (a / 4) (by omega) (by omega)).2 e he i hi]
      exact hw i hi
theorem i_vc_read {k : Nat} {u : SX} {v : SY} (I : i_Rel k u v) (hk : k + 3 ≤ 1537) (v1 : Int32) : wpX_read (fun r => wpY_read (fun r' => r' = r ∧ i_Rel (k + 3) u v) v v1) u v1 := by
  have J := i_up I
  obtain ⟨l, E, b, x, H, aA, aD, sE, sA, sD, rfl, rfl, R⟩ := I
  obtain ⟨hl, P, D, x4, hx, W⟩ := R
  unfold wpX_read
  dsimp only
  rcases qx_split v1 (n := l * 16) (by omega) with h | ⟨a, ha, rfl⟩
  · refine qw_gw0 h (br_t rfl ?_)
    unfold wpY_read
    dsimp only
    exact qy_ba1 h (br_f qx_10 ⟨rfl, J⟩)
  · refine qw_gw1 hl.2 ha (br_f qx_10 (qw_wv (v := 4) P (by omega) (by omega) (fun z => ?_) (fun d z => ?_)))
    · refine qy_rd hl.2 ha (fun _ => ⟨rfl, J⟩) (fun n => ?_)
      cases qv_at W.1 (a := a) (by omega) with
      | inl f => exact absurd f.2 n
      | inr f => obtain ⟨e, he, _, _⟩ := f; omega
    · cases qv_at W.1 (a := a) (by omega) with
      | inl f => omega
      | inr f =>
        obtain ⟨e, he, hf, hw⟩ := f
        have ee : e = d := by omega
        rw [ee] at hw
        refine qy_rd hl.2 ha (fun n => ?_) (fun _ => ⟨hw.symm, J⟩)
        rw [hf] at n
        exact absurd n qx_10
theorem i_vc_discard {k : Nat} {u : SX} {v : SY} (I : i_Rel k u v) (hk : k + 3 ≤ 1537) (v1 : Int32) : wpX_discard (fun r u' => wpY_discard (fun r' v' => r' = r ∧ i_Rel (k + 3) u' v') v v1) u v1 := by
  have J := i_up I
  obtain ⟨l, E, b, x, H, aA, aD, sE, sA, sD, rfl, rfl, R⟩ := I
  obtain ⟨hl, P, D, x4, hx, W⟩ := R
  unfold wpX_discard
  dsimp only
  rcases qx_split v1 (n := l * 4) (by omega) with h | ⟨c, hc, rfl⟩
  · refine qw_gc0 h (br_t rfl ?_)
    unfold wpY_discard
    dsimp only
    exact qy_bc1 h (br_f qx_10 ⟨rfl, J⟩)
  · rw [qx_r4 (by omega), qx_d4 (by omega)]
    have eA : upd aA (nI c).toNatClampNeg (vp_nar .boolean 0) = upd aA c 0 := by rw [nI_clamp (by omega), qx_vb0]
    have eF : aA (nI c).toNatClampNeg = aA c := by rw [nI_clamp (by omega)]
    refine qw_gc1 hl.2 hc (br_f qx_10 (qw_de (v := 4) P (by omega) (by omega) (qw_nh (qv_dle P (by omega) (by omega)) (fun z => br_t rfl ?_) (fun e z => br_f qx_10 ⟨qx_40, ?_⟩))))
    · have f0 : aA c = 0 := by
        cases W.1 c (by omega) with
        | inl f => exact f.2
        | inr f => obtain ⟨e, he, _, _⟩ := f; omega
      unfold wpY_discard
      dsimp only
      refine qy_bc0 hl.2 hc (br_t rfl ⟨vp_in_nI (by omega) (by omega), nm_r (eF.trans f0) ⟨vp_in_nI (by omega) (by omega), nm_r (eA.trans (qz_updv f0)) ⟨qx_nb0, rfl, J⟩⟩⟩)
    · have f1 : aA c = 1 := by
        cases W.1 c (by omega) with
        | inl f => omega
        | inr f => obtain ⟨_, _, he, _⟩ := f; exact he
      have he128 : e < 128 := by have := qv_dle P (v := 4) (c := c) (by omega) (by omega); omega
      rw [z, nI_pred]
      refine qw_ut (j := c / 4) P (by omega) (fun E' H' t P' hE' h1 S1 hp => ?_)
      dsimp only
      have L : qr_Lv E' t := ⟨_, by omega, hE'⟩
      have ht := qr_Lt P' L
      have hu : upd H' (nI t * 4 + nI (c % 4)).toNatClampNeg 0 = upd H' (t * 4 + c % 4) 0 := by rw [qx_cl (by omega)]
      obtain ⟨P3, r3, S3, de3⟩ := qt_dis (c := c) P' (by omega) rfl hE' h1
      have eT : qr_T H' (t * 4 + c % 4) = e + 1 := by
        rw [← z, ← (S1 4 c (by omega) (by omega)).1]
        exact (qv_det (v := 4) (c := c) hE').symm
      have ec : upd (fun h => nI (qr_ref E' H' h)) (nI e).toNatClampNeg (nI (qr_ref E' H' (nI e).toNatClampNeg) - 1) = fun h => nI (qr_ref E' (upd H' (t * 4 + c % 4) 0) h) := by
        rw [nI_clamp (by omega)]
        exact qi_dec (r := fun h => qr_ref E' H' h) (r' := fun h => qr_ref E' (upd H' (t * 4 + c % 4) 0) h) rfl (fun h => by
          have a := r3 h
          rw [eT, qs_bs] at a
          exact a.symm)
      refine ⟨qx_40, qx_in (by omega) (by omega), nm_r hu ⟨vp_in_nI he128 (by omega), vp_in_nI he128 (by omega), nm_r ec ?_⟩⟩
      have D' : qz_D l x E' := qz_D1 (q := 16 + c / 4) D ⟨by omega, by rw [show (16 + c / 4) / 4 = 4 from by omega]; exact x4⟩ hp
      unfold wpY_discard
      dsimp only
      refine qy_bc0 hl.2 hc (br_t rfl ⟨vp_in_nI (by omega) (by omega), nm_r (eF.trans f1) ⟨vp_in_nI (by omega) (by omega), nm_r eA ⟨qx_nb1, rfl, ⟨l, E', b, x, _, _, _, sE, sA, sD, rfl, rfl, hl, P3, D', x4, hx, ?_⟩⟩⟩⟩)
      exact qz_cell (c := c) (by omega) W (fun v c' hv hc' hn => qv_St (S1 v c' hv hc') (S3 v c' hv hc' hn)) (fun c' _ hn => pk_un hn) (fun _ _ _ _ _ => rfl) (Or.inl ⟨de3, pk_us⟩)
theorem i_vc_writeBacking {k : Nat} {u : SX} {v : SY} (I : i_Rel k u v) (hk : k + 3 ≤ 1537) (v1 : Int32) (v2 : Int32) : wpX_writeBacking (fun r u' => wpY_writeBacking (fun r' v' => r' = r ∧ i_Rel (k + 3) u' v') v v1 v2) u v1 v2 := by
  have J := i_up I
  obtain ⟨l, E, b, x, H, aA, aD, sE, sA, sD, rfl, rfl, R⟩ := I
  unfold wpX_writeBacking
  dsimp only
  have hl := R.1
  rcases qx_split v1 (n := l * 16) (by omega) with h | ⟨a, ha, rfl⟩
  · refine qw_gw0 h (br_t rfl ?_)
    unfold wpY_writeBacking
    dsimp only
    exact qy_ba1 h (br_f qx_10 ⟨rfl, J⟩)
  · refine qw_gw1 hl.2 ha (br_f qx_10 ⟨vp_in_nI (by omega) (by omega), nm_e ?_⟩)
    unfold wpY_writeBacking
    dsimp only
    exact qy_ba0 hl.2 ha (br_t rfl ⟨vp_in_nI (by omega) (by omega), nm_e ⟨rfl, ⟨l, E, _, x, H, aA, aD, sE, sA, sD, rfl, rfl, R⟩⟩⟩)
theorem i_vc_readBacking {k : Nat} {u : SX} {v : SY} (I : i_Rel k u v) (hk : k + 3 ≤ 1537) (v1 : Int32) : wpX_readBacking (fun r => wpY_readBacking (fun r' => r' = r ∧ i_Rel (k + 3) u v) v v1) u v1 := by
  have J := i_up I
  obtain ⟨l, E, b, x, H, aA, aD, sE, sA, sD, rfl, rfl, R⟩ := I
  unfold wpX_readBacking
  dsimp only
  have hl := R.1
  rcases qx_split v1 (n := l * 16) (by omega) with h | ⟨a, ha, rfl⟩
  · refine qw_gw0 h (br_t rfl ?_)
    unfold wpY_readBacking
    dsimp only
    exact qy_ba1 h (br_f qx_10 ⟨rfl, J⟩)
  · refine qw_gw1 hl.2 ha (br_f qx_10 ⟨vp_in_nI (by omega) (by omega), ?_⟩)
    unfold wpY_readBacking
    dsimp only
    exact qy_ba0 hl.2 ha (br_t rfl ⟨vp_in_nI (by omega) (by omega), ⟨rfl, J⟩⟩)
theorem i_vc_isAllocated {k : Nat} {u : SX} {v : SY} (I : i_Rel k u v) (hk : k + 3 ≤ 1537) (v1 : Int32) : wpX_isAllocated (fun r => wpY_isAllocated (fun r' => r' = r ∧ i_Rel (k + 3) u v) v v1) u v1 := by
  have J := i_up I
  obtain ⟨l, E, b, x, H, aA, aD, sE, sA, sD, rfl, rfl, R⟩ := I
  obtain ⟨hl, P, D, x4, hx, W⟩ := R
  unfold wpX_isAllocated
  dsimp only
  rcases qx_split v1 (n := l * 4) (by omega) with h | ⟨c, hc, rfl⟩
  · refine qw_gc0 h (br_t rfl ?_)
    unfold wpY_isAllocated
    dsimp only
    exact qy_bc1 h (br_f qx_10 ⟨rfl, J⟩)
  · have Y : ∀ r : Int32, aA c = r → wpY_isAllocated (fun r' => r' = r ∧ i_Rel (k + 3) (nI l, b, fun p => nI (E p), x, H, fun h => nI (qr_ref E H h)) (nI l, b, aA, aD, sE, sA, sD)) (nI l, b, aA, aD, sE, sA, sD) (nI c) := by
      intro r e
      unfold wpY_isAllocated
      dsimp only
      rw [nI_clamp (by omega)]
      exact qy_bc0 hl.2 hc (br_t rfl ⟨vp_in_nI (by omega) (by omega), qx_nb (qv_f01 W.1 (by omega)), e, J⟩)
    refine qw_gc1 hl.2 hc (br_f qx_10 (qw_ai (v := 4) P (by omega) (by omega) (fun z => br_t rfl (Y 0 ?_)) (fun d z => br_f qx_10 (Y 1 ?_))))
    · cases W.1 c (by omega) with
      | inl f => exact f.2
      | inr f => obtain ⟨e, he, _, _⟩ := f; omega
    · cases W.1 c (by omega) with
      | inl f => omega
      | inr f => obtain ⟨_, _, he, _⟩ := f; exact he
theorem i_vc_allocatedCount {k : Nat} {u : SX} {v : SY} (I : i_Rel k u v) (hk : k + 3 ≤ 1537) : wpX_allocatedCount (fun r => wpY_allocatedCount (fun r' => r' = r ∧ i_Rel (k + 3) u v) v) u := by
  have J := i_up I
  obtain ⟨l, E, b, x, H, aA, aD, sE, sA, sD, rfl, rfl, R⟩ := I
  obtain ⟨hl, P, D, x4, hx, W⟩ := R
  exact qw_ac hl.2 P W.1 (qy_ac hl.2 ⟨rfl, J⟩)
theorem i_vc_snapshotCreate {k : Nat} {u : SX} {v : SY} (I : i_Rel k u v) (hk : k + 3 ≤ 1537) (v1 : Int32) : wpX_snapshotCreate (fun r u' => wpY_snapshotCreate (fun r' v' => r' = r ∧ i_Rel (k + 3) u' v') v v1) u v1 := by
  have J := i_up I
  obtain ⟨l, E, b, x, H, aA, aD, sE, sA, sD, rfl, rfl, R⟩ := I
  obtain ⟨hl, P, D, x4, hx, W⟩ := R
  unfold wpX_snapshotCreate
  dsimp only
  rcases qx_split v1 (n := 4) (by omega) with h | ⟨s, hs, rfl⟩
  · refine qw_sl0 h (br_t rfl ?_)
    unfold wpY_snapshotCreate
    dsimp only
    exact qx_oc (n := 4) h ⟨rfl, J⟩
  · refine qw_sl1 hs (br_f qx_10 ⟨vp_in_nI (by omega) (by omega), ?_⟩)
    rw [nI_clamp (by omega)]
    have hxs := hx s hs
    cases hxs.2 with
    | inr e1 =>
      refine br_f (by rw [hxs.1, e1]; exact qx_10) ?_
      unfold wpY_snapshotCreate
      dsimp only
      refine br_f (nI_pos (by omega)) (br_f (nI_ge (b := 4) hs (by omega)) ⟨vp_in_nI hs (by omega), br_f ?_ ⟨rfl, J⟩⟩)
      rw [nI_clamp (by omega), e1]
      exact qx_10
    | inl e0 =>
      have x0 : x s = 0 := hxs.1.trans e0
      have z : ∀ j, j < 4 → E (s * 4 + j) = 0 := fun j hj => qz_tail D (by omega) hj (Or.inr (by rw [x0]; decide))
      refine br_t x0 (qw_sh (f := 4) (s := s) hl.2 P (by omega) (by omega) (by omega) z (fun E' P' e1 e2 => ?_))
      dsimp only
      have eX : upd x s (vp_nar .boolean 1) = upd x s 1 := by rw [qx_vb1]
      refine ⟨vp_in_nI (by omega) (by omega), nm_r eX ?_⟩
      have h4 : ∀ j, j < 4 → E' (s * 4 + j) = E (4 * 4 + j) := qz_sh4 D (by omega) (by omega) z e1 e2
      have ho : ∀ p, (p < s * 4 ∨ s * 4 + 4 ≤ p) → E' p = E p := fun p hp => e2 p (by omega)
      refine qy_sc hs (fun c hc => qv_f01 W.1 hc) e0 ⟨rfl, ⟨l, E', b, _, H, aA, aD, _, _, _, rfl, rfl, hl, P', qz_Dcr (f := 4) (by omega) D h4 ho, ?_, qz_x (Or.inr rfl) hx, qz_create hs W h4 ho⟩⟩
      exact (pk_un (by omega)).trans x4
theorem i_vc_snapshotDelete {k : Nat} {u : SX} {v : SY} (I : i_Rel k u v) (hk : k + 3 ≤ 1537) (v1 : Int32) : wpX_snapshotDelete (fun r u' => wpY_snapshotDelete (fun r' v' => r' = r ∧ i_Rel (k + 3) u' v') v v1) u v1 := by
  have J := i_up I
  obtain ⟨l, E, b, x, H, aA, aD, sE, sA, sD, rfl, rfl, R⟩ := I
  obtain ⟨hl, P, D, x4, hx, W⟩ := R
  unfold wpX_snapshotDelete
  dsimp only
  have no : ∀ (hX : qx_o 4 v1 ∨ ∃ s, s < 4 ∧ v1 = nI s ∧ x s = 0) (hY : qx_o 4 v1 ∨ ∃ s, s < 4 ∧ v1 = nI s ∧ sE s = 0), wpX_snapshotDelete (fun r u' => wpY_snapshotDelete (fun r' v' => r' = r ∧ i_Rel (k + 3) u' v') (nI l, b, aA, aD, sE, sA, sD) v1) (nI l, b, fun p => nI (E p), x, H, fun h => nI (qr_ref E H h)) v1 := by
    intro hX hY
    unfold wpX_snapshotDelete
    dsimp only
    refine qw_hs0 hX (br_t rfl ?_)
    unfold wpY_snapshotDelete
    dsimp only
    exact qy_bs1 hY (br_f qx_10 ⟨rfl, J⟩)
  rcases qx_split v1 (n := 4) (by omega) with h | ⟨s, hs, rfl⟩
  · exact no (Or.inl h) (Or.inl h)
  · have hxs := hx s hs
    cases hxs.2 with
    | inl e0 => exact no (Or.inr ⟨s, hs, rfl, hxs.1.trans e0⟩) (Or.inr ⟨s, hs, rfl, e0⟩)
    | inr e1 =>
      refine qw_hs1 hs (hxs.1.trans e1) (br_f qx_10 (qw_rl (v := s) hl.2 P (by omega) (fun E' P' e2 e3 => ?_)))
      dsimp only
      have eX : upd x (nI s).toNatClampNeg (vp_nar .boolean 0) = upd x s 0 := by rw [nI_clamp (by omega), qx_vb0]
      have eS : upd sE (nI s).toNatClampNeg (vp_nar .boolean 0) = upd sE s 0 := by rw [nI_clamp (by omega), qx_vb0]
      refine ⟨vp_in_nI (by omega) (by omega), nm_r eX ?_⟩
      have h4 : ∀ j, j < 4 → E' (s * 4 + j) = 0 := qz_rl4 D (by omega) e2 e3
      have ho : ∀ p, (p < s * 4 ∨ s * 4 + 4 ≤ p) → E' p = E p := fun p hp => e3 p (by omega)
      unfold wpY_snapshotDelete
      dsimp only
      refine qy_bs0 hs e1 (br_t rfl ⟨vp_in_nI hs (by omega), nm_r eS ⟨rfl, ⟨l, E', b, _, H, aA, aD, _, sA, sD, rfl, rfl, hl, P', qz_Dz (s := s) D (fun s' hn => pk_un hn) h4 ho, ?_, qz_x (Or.inl rfl) hx, qz_delete hs W ho⟩⟩⟩)
      exact (pk_un (by omega)).trans x4
theorem i_vc_snapshotApply {k : Nat} {u : SX} {v : SY} (I : i_Rel k u v) (hk : k + 3 ≤ 1537) (v1 : Int32) : wpX_snapshotApply (fun r u' => wpY_snapshotApply (fun r' v' => r' = r ∧ i_Rel (k + 3) u' v') v v1) u v1 := by
  have J := i_up I
  obtain ⟨l, E, b, x, H, aA, aD, sE, sA, sD, rfl, rfl, R⟩ := I
  obtain ⟨hl, P, D, x4, hx, W⟩ := R
  have no : ∀ (hX : qx_o 4 v1 ∨ ∃ s, s < 4 ∧ v1 = nI s ∧ x s = 0) (hY : qx_o 4 v1 ∨ ∃ s, s < 4 ∧ v1 = nI s ∧ sE s = 0), wpX_snapshotApply (fun r u' => wpY_snapshotApply (fun r' v' => r' = r ∧ i_Rel (k + 3) u' v') (nI l, b, aA, aD, sE, sA, sD) v1) (nI l, b, fun p => nI (E p), x, H, fun h => nI (qr_ref E H h)) v1 := by
    intro hX hY
    unfold wpX_snapshotApply
    dsimp only
    refine qw_hs0 hX (br_t rfl ?_)
    unfold wpY_snapshotApply
    dsimp only
    exact qy_bs1 hY (br_f qx_10 ⟨rfl, J⟩)
  rcases qx_split v1 (n := 4) (by omega) with h | ⟨s, hs, rfl⟩
  · exact no (Or.inl h) (Or.inl h)
  · have hxs := hx s hs
    cases hxs.2 with
    | inl e0 => exact no (Or.inr ⟨s, hs, rfl, hxs.1.trans e0⟩) (Or.inr ⟨s, hs, rfl, e0⟩)
    | inr e1 =>
      unfold wpX_snapshotApply
      dsimp only
      refine qw_hs1 hs (hxs.1.trans e1) (br_f qx_10 (qw_rl (v := 4) hl.2 P (by omega) (fun E1 P1 a1 a2 => ?_)))
      dsimp only
      have z4 : ∀ j, j < 4 → E1 (4 * 4 + j) = 0 := qz_rl4 D (by omega) a1 a2
      have z5 : ∀ p, (p < 4 * 4 ∨ 4 * 4 + 4 ≤ p) → E1 p = E p := fun p hp => a2 p (by omega)
      have D1 : qz_D l x E1 := qz_Dz (s := 4) D (fun _ _ => rfl) z4 z5
      refine qw_sh (f := s) (s := 4) hl.2 P1 (by omega) (by omega) (by omega) z4 (fun E' P' b1 b2 => ?_)
      dsimp only
      have h4 : ∀ j, j < 4 → E' (4 * 4 + j) = E1 (s * 4 + j) := qz_sh4 D1 (by omega) (by omega) z4 b1 b2
      have ho : ∀ p, (p < 4 * 4 ∨ 4 * 4 + 4 ≤ p) → E' p = E1 p := fun p hp => b2 p (by omega)
      have D2 := qz_Dcr (s := 4) (f := s) (by omega) D1 h4 ho
      rw [qz_upd1 x4] at D2
      refine qy_sa hs e1 (fun c hc => qv_f01 (W.2 s hs e1) hc) ⟨rfl, ⟨l, E', b, x, H, _, _, sE, sA, sD, rfl, rfl, hl, P', D2, x4, hx, qz_apply hs e1 W (fun j hj => ?_) (fun p hp => ?_)⟩⟩
      · rw [h4 j hj]
        exact z5 _ (by omega)
      · rw [ho p (by omega)]
        exact z5 p (by omega)
theorem i_vc_snapshotExists {k : Nat} {u : SX} {v : SY} (I : i_Rel k u v) (hk : k + 3 ≤ 1537) (v1 : Int32) : wpX_snapshotExists (fun r => wpY_snapshotExists (fun r' => r' = r ∧ i_Rel (k + 3) u v) v v1) u v1 := by
  have J := i_up I
  obtain ⟨l, E, b, x, H, aA, aD, sE, sA, sD, rfl, rfl, R⟩ := I
  obtain ⟨hl, P, D, x4, hx, W⟩ := R
  unfold wpX_snapshotExists
  dsimp only
  rcases qx_split v1 (n := 4) (by omega) with h | ⟨s, hs, rfl⟩
  · refine qw_hs0 (Or.inl h) ⟨qx_nb0, ?_⟩
    unfold wpY_snapshotExists
    dsimp only
    exact qx_ol (n := 4) h ⟨rfl, J⟩
  · have hxs := hx s hs
    have Y : ∀ r : Int32, sE s = r → wpY_snapshotExists (fun r' => r' = r ∧ i_Rel (k + 3) (nI l, b, fun p => nI (E p), x, H, fun h => nI (qr_ref E H h)) (nI l, b, aA, aD, sE, sA, sD)) (nI l, b, aA, aD, sE, sA, sD) (nI s) := by
      intro r e
      unfold wpY_snapshotExists
      dsimp only
      rw [nI_clamp (by omega)]
      exact br_f (nI_pos (by omega)) (br_t (nI_lt (b := 4) hs (by omega)) ⟨vp_in_nI hs (by omega), qx_nb hxs.2, e, J⟩)
    cases hxs.2 with
    | inl e0 => exact qw_hs0 (Or.inr ⟨s, hs, rfl, hxs.1.trans e0⟩) ⟨qx_nb0, Y 0 e0⟩
    | inr e1 => exact qw_hs1 hs (hxs.1.trans e1) ⟨qx_nb1, Y 1 e1⟩
theorem i_vc_readSnapshot {k : Nat} {u : SX} {v : SY} (I : i_Rel k u v) (hk : k + 3 ≤ 1537) (v1 : Int32) (v2 : Int32) : wpX_readSnapshot (fun r => wpY_readSnapshot (fun r' => r' = r ∧ i_Rel (k + 3) u v) v v1 v2) u v1 v2 := by
  have J := i_up I
  obtain ⟨l, E, b, x, H, aA, aD, sE, sA, sD, rfl, rfl, R⟩ := I
  obtain ⟨hl, P, D, x4, hx, W⟩ := R
  unfold wpX_readSnapshot
  dsimp only
  rcases qx_split v1 (n := 4) (by omega) with h | ⟨s, hs, rfl⟩
  · refine qw_hs0 (Or.inl h) (br_t rfl ?_)
    unfold wpY_readSnapshot
    dsimp only
    exact qy_bs1 (Or.inl h) (br_f qx_10 ⟨rfl, J⟩)
  · have hxs := hx s hs
    cases hxs.2 with
    | inl e0 =>
      refine qw_hs0 (Or.inr ⟨s, hs, rfl, hxs.1.trans e0⟩) (br_t rfl ?_)
      unfold wpY_readSnapshot
      dsimp only
      exact qy_bs1 (Or.inr ⟨s, hs, rfl, e0⟩) (br_f qx_10 ⟨rfl, J⟩)
    | inr e1 =>
      refine qw_hs1 hs (hxs.1.trans e1) (br_f qx_10 ?_)
      rcases qx_split v2 (n := l * 16) (by omega) with h | ⟨a, ha, rfl⟩
      · refine qw_gw0 h (br_t rfl ?_)
        unfold wpY_readSnapshot
        dsimp only
        exact qy_bs0 hs e1 (br_t rfl (qy_ba1 h (br_f qx_10 ⟨rfl, J⟩)))
      · have V := W.2 s hs e1
        have Y : ∀ r : Int32, (sA (s * 16 + a / 4) = 0 → b a = r) → (¬ sA (s * 16 + a / 4) = 0 → sD (s * 64 + a) = r) → wpY_readSnapshot (fun r' => r' = r ∧ i_Rel (k + 3) (nI l, b, fun p => nI (E p), x, H, fun h => nI (qr_ref E H h)) (nI l, b, aA, aD, sE, sA, sD)) (nI l, b, aA, aD, sE, sA, sD) (nI s) (nI a) := by
          intro r y0 y1
          unfold wpY_readSnapshot
          dsimp only
          rw [qx_d4 (by omega), qx_ix16, qx_ix64, nI_clamp (n := s * 16 + a / 4) (by omega), nI_clamp (n := s * 64 + a) (by omega), nI_clamp (n := a) (by omega)]
          exact qy_bs0 hs e1 (br_t rfl (qy_ba0 hl.2 ha (br_t rfl ⟨qx_40, vp_in_nI (by omega) (by omega), br_c (fun z => ⟨vp_in_nI (by omega) (by omega), y0 z, J⟩) (fun z => ⟨vp_in_nI (by omega) (by omega), y1 z, J⟩)⟩)))
        refine qw_gw1 hl.2 ha (br_f qx_10 (qw_wv (v := s) P (by omega) (by omega) (fun z => Y _ (fun _ => rfl) (fun n => ?_)) (fun d z => Y _ (fun n => ?_) (fun _ => ?_))))
        · cases qv_at V (a := a) (by omega) with
          | inl f => exact absurd f.2 n
          | inr f => obtain ⟨e, he, _, _⟩ := f; omega
        · cases qv_at V (a := a) (by omega) with
          | inl f => omega
          | inr f =>
            obtain ⟨e, _, hf, _⟩ := f
            have hf' : sA (s * 16 + a / 4) = 1 := hf
            rw [hf'] at n
            exact absurd n qx_10
        · cases qv_at V (a := a) (by omega) with
          | inl f => omega
          | inr f =>
            obtain ⟨e, he, _, hw⟩ := f
            have ee : e = d := by omega
            rw [ee] at hw
            exact hw.symm
theorem i_vc_isSnapshotAllocated {k : Nat} {u : SX} {v : SY} (I : i_Rel k u v) (hk : k + 3 ≤ 1537) (v1 : Int32) (v2 : Int32) : wpX_isSnapshotAllocated (fun r => wpY_isSnapshotAllocated (fun r' => r' = r ∧ i_Rel (k + 3) u v) v v1 v2) u v1 v2 := by
  have J := i_up I
  obtain ⟨l, E, b, x, H, aA, aD, sE, sA, sD, rfl, rfl, R⟩ := I
  obtain ⟨hl, P, D, x4, hx, W⟩ := R
  unfold wpX_isSnapshotAllocated
  dsimp only
  rcases qx_split v1 (n := 4) (by omega) with h | ⟨s, hs, rfl⟩
  · refine qw_hs0 (Or.inl h) (br_t rfl ?_)
    unfold wpY_isSnapshotAllocated
    dsimp only
    exact qy_bs1 (Or.inl h) (br_f qx_10 ⟨rfl, J⟩)
  · have hxs := hx s hs
    cases hxs.2 with
    | inl e0 =>
      refine qw_hs0 (Or.inr ⟨s, hs, rfl, hxs.1.trans e0⟩) (br_t rfl ?_)
      unfold wpY_isSnapshotAllocated
      dsimp only
      exact qy_bs1 (Or.inr ⟨s, hs, rfl, e0⟩) (br_f qx_10 ⟨rfl, J⟩)
    | inr e1 =>
      refine qw_hs1 hs (hxs.1.trans e1) (br_f qx_10 ?_)
      rcases qx_split v2 (n := l * 4) (by omega) with h | ⟨c, hc, rfl⟩
      · refine qw_gc0 h (br_t rfl ?_)
        unfold wpY_isSnapshotAllocated
        dsimp only
        exact qy_bs0 hs e1 (br_t rfl (qy_bc1 h (br_f qx_10 ⟨rfl, J⟩)))
      · have V := W.2 s hs e1
        have Y : ∀ r : Int32, sA (s * 16 + c) = r → wpY_isSnapshotAllocated (fun r' => r' = r ∧ i_Rel (k + 3) (nI l, b, fun p => nI (E p), x, H, fun h => nI (qr_ref E H h)) (nI l, b, aA, aD, sE, sA, sD)) (nI l, b, aA, aD, sE, sA, sD) (nI s) (nI c) := by
          intro r e
          unfold wpY_isSnapshotAllocated
          dsimp only
          rw [qx_ix16, nI_clamp (by omega)]
          exact qy_bs0 hs e1 (br_t rfl (qy_bc0 hl.2 hc (br_t rfl ⟨vp_in_nI (by omega) (by omega), qx_nb (qv_f01 V (c := c) (by omega)), e, J⟩)))
        refine qw_gc1 hl.2 hc (br_f qx_10 (qw_ai (v := s) P (by omega) (by omega) (fun z => br_t rfl (Y 0 ?_)) (fun d z => br_f qx_10 (Y 1 ?_))))
        · cases V c (by omega) with
          | inl f => exact f.2
          | inr f => obtain ⟨e, he, _, _⟩ := f; omega
        · cases V c (by omega) with
          | inl f => omega
          | inr f => obtain ⟨_, _, he, _⟩ := f; exact he
theorem i_vc_commit {k : Nat} {u : SX} {v : SY} (I : i_Rel k u v) (hk : k + 3 ≤ 1537) : wpX_commit (fun r u' => wpY_commit (fun r' v' => r' = r ∧ i_Rel (k + 3) u' v') v) u := by
  have J := i_up I
  obtain ⟨l, E, b, x, H, aA, aD, sE, sA, sD, rfl, rfl, R⟩ := I
  obtain ⟨hl, P, D, x4, hx, W⟩ := R
  refine qw_cm hl.2 P W.1 (qw_rl (v := 4) hl.2 P (by omega) (fun E' P' a1 a2 => ?_))
  have z4 : ∀ j, j < 4 → E' (4 * 4 + j) = 0 := qz_rl4 D (by omega) a1 a2
  have z5 : ∀ p, (p < 4 * 4 ∨ 4 * 4 + 4 ≤ p) → E' p = E p := fun p hp => a2 p (by omega)
  exact qy_cm hl.2 ⟨rfl, ⟨l, E', _, x, H, _, aD, sE, sA, sD, rfl, rfl, hl, P', qz_Dz (s := 4) D (fun _ _ => rfl) z4 z5, x4, hx, qz_commit W z4 (fun p hp => z5 p (by omega))⟩⟩
theorem i_vc_check {k : Nat} {u : SX} {v : SY} (I : i_Rel k u v) (hk : k + 3 ≤ 1537) : wpX_check (fun r => wpY_check (fun r' => r' = r ∧ i_Rel (k + 3) u v) v) u := by
  have J := i_up I
  obtain ⟨l, E, b, x, H, aA, aD, sE, sA, sD, rfl, rfl, R⟩ := I
  obtain ⟨hl, P, D, x4, hx, W⟩ := R
  exact qw_ck hl.2 D P ⟨rfl, J⟩
end
