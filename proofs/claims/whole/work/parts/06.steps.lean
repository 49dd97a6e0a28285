theorem qs_mono {f : Nat → Nat} {i : Nat} : ∀ n : Nat, i ≤ n → qs_sm f i ≤ qs_sm f n := by
  intro n
  induction n with
  | zero => intro h; rw [Nat.le_zero.mp h]; exact Nat.le_refl _
  | succ n ih =>
    intro h
    by_cases e : i = n + 1
    · rw [e]; exact Nat.le_refl _
    · have a := ih (by omega)
      show qs_sm f i ≤ qs_sm f n + f n
      omega
theorem qr_first (E : Nat → Nat) (H : Nat → Int32) : ∃ k, k < 127 ∧ qr_ref E H k = 0 ∧ ∀ j, j < k → qr_ref E H j ≠ 0 := by
  obtain ⟨k, hk, hl⟩ := pk_least (fun h => h < 127 ∧ qr_ref E H h = 0) (qr_room E H)
  exact ⟨k, hk.1, hk.2, fun j hj e => hl j hj ⟨by omega, e⟩⟩
/-- the namings of h among the first i entries of table t -/
def qr_p (H : Nat → Int32) (t h i : Nat) : Nat := qs_sm (fun i => qs_b (qr_T H (t * 4 + i)) (h + 1)) i
theorem qr_p0 (H : Nat → Int32) (t h : Nat) : qr_p H t h 0 = 0 := rfl
theorem qr_p4 (H : Nat → Int32) (t h : Nat) : qr_p H t h 4 = qr_nT H t h := rfl
theorem qr_ps (H : Nat → Int32) (t h i : Nat) : qr_p H t h (i + 1) = qr_p H t h i + qs_b (qr_T H (t * 4 + i)) (h + 1) := rfl
theorem qr_pz {H : Nat → Int32} {t i : Nat} (hT : qr_T H (t * 4 + i) = 0) (h : Nat) : qr_p H t h (i + 1) = qr_p H t h i := by
  rw [qr_ps, hT, qs_b0 (by omega), Nat.add_zero]
theorem qr_pw {H : Nat → Int32} {t i w : Nat} (hT : qr_T H (t * 4 + i) = w + 1) (h : Nat) : qr_p H t h (i + 1) = qr_p H t h i + qs_b w h := by
  rw [qr_ps, hT, qs_bs]
theorem qr_ple {H : Nat → Int32} {t h i : Nat} (hi : i ≤ 4) : qr_p H t h i ≤ qr_nT H t h := qs_mono 4 hi
theorem qi_pinc {r : Nat → Nat} {H : Nat → Int32} {t i w : Nat} {x : Int32} (hT : qr_T H (t * 4 + i) = w + 1) (hx : x = nI (r w + qr_p H t w i) + 1) : upd (fun h => nI (r h + qr_p H t h i)) w x = fun h => nI (r h + qr_p H t h (i + 1)) :=
  qi_inc (r := fun h => r h + qr_p H t h i) (r' := fun h => r h + qr_p H t h (i + 1)) hx (fun h => by
    show r h + qr_p H t h (i + 1) = r h + qr_p H t h i + qs_b w h
    rw [qr_pw hT]
    omega)
theorem qi_pinc0 {r : Nat → Nat} {H : Nat → Int32} {t i : Nat} (hT : qr_T H (t * 4 + i) = 0) : (fun h => nI (r h + qr_p H t h i)) = fun h => nI (r h + qr_p H t h (i + 1)) := by
  funext h
  rw [qr_pz hT]
theorem qi_pdec {r : Nat → Nat} {H : Nat → Int32} {t i w : Nat} {x : Int32} (hi : i < 4) (hr : ∀ h, qr_nT H t h ≤ r h) (hT : qr_T H (t * 4 + i) = w + 1) (hx : x = nI (r w - qr_p H t w i) - 1) : upd (fun h => nI (r h - qr_p H t h i)) w x = fun h => nI (r h - qr_p H t h (i + 1)) :=
  qi_dec (r := fun h => r h - qr_p H t h i) (r' := fun h => r h - qr_p H t h (i + 1)) hx (fun h => by
    show r h - qr_p H t h i = r h - qr_p H t h (i + 1) + qs_b w h
    have a := qr_ple (H := H) (t := t) (h := h) (i := i + 1) (by omega)
    have b := hr h
    rw [qr_pw hT] at a
    rw [qr_pw hT]
    omega)
theorem qi_pdec0 {r : Nat → Nat} {H : Nat → Int32} {t i : Nat} (hT : qr_T H (t * 4 + i) = 0) : (fun h => nI (r h - qr_p H t h i)) = fun h => nI (r h - qr_p H t h (i + 1)) := by
  funext h
  rw [qr_pz hT]
/-- an L1 entry is let go -/
theorem qt_go {E : Nat → Nat} {H : Nat → Int32} {q t : Nat} (P : qr_PI E H) (hq : q < 20) (hE : E q = t + 1) : (∀ h, qr_ref E H h = (qr_ref E H h - qs_b t h) + qs_b t h) ∧ qr_ref E H t - qs_b t t = qr_nE (qr_ue E q 0) t ∧ (qr_nE (qr_ue E q 0) t ≠ 0 → ∀ h, qr_ref E H h - qs_b t h = qr_ref (qr_ue E q 0) H h) ∧ (qr_nE (qr_ue E q 0) t = 0 → ∀ h, qr_nT H t h ≤ qr_ref E H h - qs_b t h ∧ qr_ref E H h - qs_b t h - qr_nT H t h = qr_ref (qr_ue E q 0) H h) := by
  have L : qr_Lv E t := ⟨q, hq, hE⟩
  have ht := qr_Lt P L
  obtain ⟨r1, r2⟩ := qt_rel (H := H) hq ht hE
  have r0 := qr_tref P L
  refine ⟨fun h => ?_, ?_, fun n h => ?_, fun n h => ?_⟩
  · by_cases e : t = h
    · rw [← e, qs_b1 rfl]; omega
    · rw [qs_b0 e]; omega
  · rw [qs_b1 rfl]; omega
  · have a := r2 h
    have Lt : qr_Lv (qr_ue E q 0) t := qr_lv.mp (by omega)
    rw [qr_dR1 Lt] at a
    omega
  · have a := r2 h
    have Lt : ¬ qr_Lv (qr_ue E q 0) t := fun L' => by
      have := qr_lv.mpr L'
      omega
    rw [qr_dR0 Lt] at a
    constructor
    · omega
    · omega
theorem qx_ix (a i : Nat) : nI a * 4 + nI i = nI (a * 4 + i) := by
  show nI a * nI 4 + nI i = nI (a * 4 + i)
  rw [pk_mul, nI_add]
theorem qx_d4 {a : Nat} (h : a < 2 ^ 31) : nI a / 4 = nI (a / 4) := pk_div (d := 4) h (by omega) (by omega)
theorem qx_r4 {a : Nat} (h : a < 2 ^ 31) : nI a - nI a / 4 * 4 = nI (a % 4) := pk_rem (d := 4) h (by omega) (by omega)
