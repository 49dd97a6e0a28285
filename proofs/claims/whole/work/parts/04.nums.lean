theorem qi_ue (E : Nat → Nat) (q x : Nat) : upd (fun p => nI (E p)) q (nI x) = fun p => nI (qr_ue E q x p) := by
  funext p
  by_cases e : p = q
  · rw [e]
    exact pk_us.trans (congrArg nI (qr_ue_s E q x).symm)
  · exact (pk_un e).trans (congrArg nI (qr_ue_n e).symm)
theorem qi_inc {r r' : Nat → Nat} {t : Nat} {x : Int32} (hx : x = nI (r t) + 1) (e : ∀ h, r' h = r h + qs_b t h) : upd (fun h => nI (r h)) t x = fun h => nI (r' h) := by
  funext h
  by_cases z : h = t
  · rw [z]
    refine pk_us.trans ?_
    show x = nI (r' t)
    rw [hx, e t, qs_b1 rfl, nI_1]
  · refine (pk_un z).trans ?_
    show nI (r h) = nI (r' h)
    rw [e h, qs_b0 (fun y => z y.symm), Nat.add_zero]
theorem qi_dec {r r' : Nat → Nat} {t : Nat} {x : Int32} (hx : x = nI (r t) - 1) (e : ∀ h, r h = r' h + qs_b t h) : upd (fun h => nI (r h)) t x = fun h => nI (r' h) := by
  funext h
  by_cases z : h = t
  · rw [z]
    refine pk_us.trans ?_
    show x = nI (r' t)
    rw [hx, e t, qs_b1 rfl, nI_pred]
  · refine (pk_un z).trans ?_
    show nI (r h) = nI (r' h)
    rw [e h, qs_b0 (fun y => z y.symm), Nat.add_zero]
theorem qi_new {r r' : Nat → Nat} {t : Nat} (h0 : r t = 0) (e : ∀ h, r' h = r h + qs_b t h) : upd (fun h => nI (r h)) t 1 = fun h => nI (r' h) := by
  refine qi_inc ?_ e
  rw [h0, nI_0]
  rfl
/-- the bits of the mask -/
theorem qb_1shl : ∀ n, n < 32 → ∀ i, i < 32 → bt ((1 : Int32) <<< (nI n &&& 31)) i = decide (i = n) := by decide +kernel
theorem qb_1 : ∀ i, i < 32 → bt (1 : Int32) i = decide (i = 0) := by decide +kernel
theorem qb_low (x : Int32) : (x &&& 1) = 0 ↔ bt x 0 = false := by
  constructor
  · intro h
    have a := b_and x 1 0
    rw [h, b_0, qb_1 0 (by omega), decide_eq_true rfl, Bool.and_true] at a
    exact a.symm
  · intro h
    apply b_ext
    intro i hi
    rw [b_and, b_0, qb_1 i hi]
    by_cases z : i = 0
    · rw [z, h]; rfl
    · rw [decide_eq_false z, Bool.and_false]
theorem qb_at (M : Int32) (p : Nat) (hp : p < 32) : ((M.toUInt32 >>> ((nI p).toUInt32 &&& Int32.toUInt32 31)).toInt32 &&& 1) = 0 ↔ bt M p = false := by
  rw [qb_low, b_ushr p hp M 0, Nat.add_zero]
/-- the first entry that names its table -/
def qk_F (E : Nat → Nat) (p : Nat) : Prop := E p ≠ 0 ∧ ∀ j, j < p → E j ≠ E p
def qk_w (E : Nat → Nat) (f : Nat → Nat) (p : Nat) : Nat := if E p = 0 then 0 else if qs_sm (fun j => qs_b (E j) (E p)) p = 0 then f (E p - 1) else 0
def qk_M (E : Nat → Nat) (n : Nat) (M : Int32) : Prop := ∀ p, p < 32 → (bt M p = true ↔ (p < n ∧ qk_F E p))
theorem qk_w1 {E : Nat → Nat} {f : Nat → Nat} {p : Nat} (h : qk_F E p) : qk_w E f p = f (E p - 1) := by
  have a : qs_sm (fun j => qs_b (E j) (E p)) p = 0 := qs_zero p (fun j hj => qs_b0 (h.2 j hj))
  unfold qk_w
  rw [if_neg h.1, if_pos a]
theorem qk_w0 {E : Nat → Nat} {f : Nat → Nat} {p : Nat} (h : ¬ qk_F E p) : qk_w E f p = 0 := by
  unfold qk_w
  by_cases z : E p = 0
  · rw [if_pos z]
  · rw [if_neg z]
    by_cases y : qs_sm (fun j => qs_b (E j) (E p)) p = 0
    · exfalso
      apply h
      refine ⟨z, fun j hj e => ?_⟩
      have a : qs_b (E j) (E p) ≤ qs_sm (fun j => qs_b (E j) (E p)) p := qs_ge (f := fun j => qs_b (E j) (E p)) p hj
      rw [qs_b1 e] at a
      omega
    · rw [if_neg y]
theorem qk_conv {E : Nat → Nat} (f : Nat → Nat) (hE : ∀ p, E p ≤ 128) : ∀ n : Nat, qs_sm (fun p => qk_w E f p) n = qs_sm (fun t => if 0 < qs_sm (fun p => qs_b (E p) (t + 1)) n then f t else 0) 128 := by
  intro n
  induction n with
  | zero =>
    refine (qs_zero (f := fun t => if 0 < qs_sm (fun p => qs_b (E p) (t + 1)) 0 then f t else 0) 128 (fun t _ => ?_)).symm
    exact if_neg (Nat.lt_irrefl 0)
  | succ n ih =>
    show qs_sm (fun p => qk_w E f p) n + qk_w E f n = qs_sm (fun t => if 0 < qs_sm (fun p => qs_b (E p) (t + 1)) n + qs_b (E n) (t + 1) then f t else 0) 128
    rw [ih]
    by_cases F : qk_F E n
    · have e : E n = (E n - 1) + 1 := by have := F.1; omega
      have ht : E n - 1 < 128 := by have := hE n; have := F.1; omega
      have z : qs_sm (fun p => qs_b (E p) ((E n - 1) + 1)) n = 0 := qs_zero n (fun j hj => qs_b0 (by rw [← e]; exact F.2 j hj))
      have a := qs_one (f := fun t => if 0 < qs_sm (fun p => qs_b (E p) (t + 1)) n + qs_b (E n) (t + 1) then f t else 0) (g := fun t => if 0 < qs_sm (fun p => qs_b (E p) (t + 1)) n then f t else 0) (k := E n - 1) 128 ht (fun t _ hn => by
        show (if 0 < qs_sm (fun p => qs_b (E p) (t + 1)) n + qs_b (E n) (t + 1) then f t else 0) = (if 0 < qs_sm (fun p => qs_b (E p) (t + 1)) n then f t else 0)
        rw [qs_b0 (a := E n) (b := t + 1) (by omega), Nat.add_zero])
      have b : (if 0 < qs_sm (fun p => qs_b (E p) ((E n - 1) + 1)) n + qs_b (E n) ((E n - 1) + 1) then f (E n - 1) else 0) = f (E n - 1) := by
        rw [qs_b1 e]
        exact if_pos (Nat.succ_pos _)
      have c : (if 0 < qs_sm (fun p => qs_b (E p) ((E n - 1) + 1)) n then f (E n - 1) else 0) = 0 := by
        rw [z]
        exact if_neg (Nat.lt_irrefl 0)
      have a' : qs_sm (fun t => if 0 < qs_sm (fun p => qs_b (E p) (t + 1)) n + qs_b (E n) (t + 1) then f t else 0) 128 + (if 0 < qs_sm (fun p => qs_b (E p) ((E n - 1) + 1)) n then f (E n - 1) else 0) = qs_sm (fun t => if 0 < qs_sm (fun p => qs_b (E p) (t + 1)) n then f t else 0) 128 + (if 0 < qs_sm (fun p => qs_b (E p) ((E n - 1) + 1)) n + qs_b (E n) ((E n - 1) + 1) then f (E n - 1) else 0) := a
      rw [b, c, Nat.add_zero] at a'
      rw [qk_w1 F, a']
    · rw [qk_w0 F, Nat.add_zero]
      refine qs_congr 128 (fun t _ => ?_)
      show (if 0 < qs_sm (fun p => qs_b (E p) (t + 1)) n then f t else 0) = (if 0 < qs_sm (fun p => qs_b (E p) (t + 1)) n + qs_b (E n) (t + 1) then f t else 0)
      by_cases e : E n = t + 1
      · have ex : ∃ j, j < n ∧ E j = E n := by
          by_cases y : ∃ j, j < n ∧ E j = E n
          · exact y
          · exact absurd ⟨by omega, fun j hj ej => y ⟨j, hj, ej⟩⟩ F
        obtain ⟨j, hj, ej⟩ := ex
        have a : qs_b (E j) (t + 1) ≤ qs_sm (fun p => qs_b (E p) (t + 1)) n := qs_ge (f := fun p => qs_b (E p) (t + 1)) n hj
        rw [qs_b1 (ej.trans e)] at a
        rw [if_pos (by omega), if_pos (by omega)]
      · have y := qs_b0 e
        simp only [y, Nat.add_zero]
theorem qk_ref {E : Nat → Nat} {H : Nat → Int32} (hE : ∀ p, E p ≤ 128) (h : Nat) : qs_sm (fun p => qs_b (E p) (h + 1) + qk_w E (fun t => qr_nT H t h) p) 20 = qr_ref E H h := by
  have a := qs_add (fun p => qs_b (E p) (h + 1)) (fun p => qk_w E (fun t => qr_nT H t h) p) 20
  have b : qs_sm (fun p => qk_w E (fun t => qr_nT H t h) p) 20 = qs_sm (fun t => qr_dR E H t h) 128 := qk_conv (fun t => qr_nT H t h) hE 20
  rw [b] at a
  exact a
theorem qk_M0 (E : Nat → Nat) : qk_M E 0 0 := by
  intro p _
  rw [b_0]
  constructor
  · intro h; exact absurd h (by decide)
  · intro h; exact absurd h.1 (Nat.not_lt_zero p)
theorem qk_Ms {E : Nat → Nat} {n : Nat} {M : Int32} (hn : n < 32) (h : qk_M E n M) (F : qk_F E n) : qk_M E (n + 1) (M ||| ((1 : Int32) <<< (nI n &&& 31))) := by
  intro p hp
  rw [b_or, qb_1shl n hn p hp]
  by_cases e : p = n
  · rw [decide_eq_true e, Bool.or_true]
    exact ⟨fun _ => ⟨by omega, by rw [e]; exact F⟩, fun _ => rfl⟩
  · rw [decide_eq_false e, Bool.or_false, h p hp]
    exact ⟨fun z => ⟨by omega, z.2⟩, fun z => ⟨by omega, z.2⟩⟩
theorem qk_Mn {E : Nat → Nat} {n : Nat} {M : Int32} (h : qk_M E n M) (F : ¬ qk_F E n) : qk_M E (n + 1) M := by
  intro p hp
  rw [h p hp]
  constructor
  · exact fun z => ⟨by omega, z.2⟩
  · intro z
    have : p ≠ n := fun e => F (e ▸ z.2)
    exact ⟨by omega, z.2⟩
