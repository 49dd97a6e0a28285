theorem qz_updv {x : Nat → Int32} {s : Nat} {y : Int32} (h : x s = y) : upd x s y = x := by
  funext j
  by_cases e : j = s
  · rw [e, h]; exact pk_us
  · exact pk_un e
theorem qv_at {E : Nat → Nat} {H : Nat → Int32} {v : Nat} {fl wd : Nat → Int32} (V : qv_V E H v fl wd) {a : Nat} (ha : a < 64) : (qv_de E H v (a / 4) = 0 ∧ fl (a / 4) = 0) ∨ (∃ e, qv_de E H v (a / 4) = e + 1 ∧ fl (a / 4) = 1 ∧ H (e * 4 + a % 4) = wd a) := by
  cases V (a / 4) (by omega) with
  | inl h => exact Or.inl h
  | inr h =>
    obtain ⟨e, h1, h2, h3⟩ := h
    refine Or.inr ⟨e, h1, h2, ?_⟩
    have h4 : H (e * 4 + a % 4) = wd (a / 4 * 4 + a % 4) := h3 (a % 4) (by omega)
    rw [Nat.div_add_mod'] at h4
    exact h4
/-- the active image after a write -/
theorem qz_wr {E E' : Nat → Nat} {H H2 aA aD sE sA sD aA' aD0 : Nat → Int32} {a d : Nat} {y : Int32} (ha : a < 64) (W : qz_W E H aA aD sE sA sD) (S : ∀ v c', v < 5 → c' < 16 → (v ≠ 4 ∨ c' ≠ a / 4) → qv_S E H E' (upd H2 (d * 4 + a % 4) y) v c') (hde : qv_de E' (upd H2 (d * 4 + a % 4) y) 4 (a / 4) = d + 1) (hA1 : aA' (a / 4) = 1) (hA : ∀ c', c' < 16 → c' ≠ a / 4 → aA' c' = aA c') (hD : ∀ c', c' < 16 → c' ≠ a / 4 → ∀ i, i < 4 → aD0 (c' * 4 + i) = aD (c' * 4 + i)) (hw : ∀ i, i < 4 → H2 (d * 4 + i) = aD0 (a / 4 * 4 + i)) : qz_W E' (upd H2 (d * 4 + a % 4) y) aA' (upd aD0 a y) sE sA sD := by
  refine qz_cell (c := a / 4) (by omega) W S hA (fun c' hc' hn i hi => ?_) (Or.inr ⟨d, hde, hA1, fun i hi => ?_⟩)
  · rw [← hD c' hc' hn i hi]
    exact pk_un (by omega)
  · show upd H2 (d * 4 + a % 4) y (d * 4 + i) = upd aD0 a y (a / 4 * 4 + i)
    by_cases e : i = a % 4
    · have e2 : a / 4 * 4 + i = a := by omega
      rw [e2, e]
      exact pk_us.trans pk_us.symm
    · refine (pk_un (by omega)).trans ?_
      refine (hw i hi).trans ?_
      exact (pk_un (by omega)).symm
theorem qz_x {sE x : Nat → Int32} {s : Nat} {y : Int32} (hy : y = 0 ∨ y = 1) (h : ∀ s, s < 4 → x s = sE s ∧ (sE s = 0 ∨ sE s = 1)) : ∀ s', s' < 4 → upd x s y s' = upd sE s y s' ∧ (upd sE s y s' = 0 ∨ upd sE s y s' = 1) := by
  intro s' hs'
  by_cases e : s' = s
  · rw [e]
    exact ⟨pk_us.trans pk_us.symm, by rw [pk_us]; exact hy⟩
  · rw [pk_un e, pk_un e]
    exact h s' hs'
/-- the entries of a view past its size are 0, and so are a dead view's -/
theorem qz_tail {l v j : Nat} {x : Nat → Int32} {E : Nat → Nat} (D : qz_D l x E) (hv : v < 5) (hj : j < 4) (h : l ≤ j ∨ x v ≠ 1) : E (v * 4 + j) = 0 := by
  by_cases z : E (v * 4 + j) = 0
  · exact z
  · have a := D (v * 4 + j) (by omega) z
    have e : (v * 4 + j) / 4 = v := by omega
    rw [e] at a
    cases h with
    | inl h => omega
    | inr h => exact absurd a.2 h
theorem qz_sh4 {l f s : Nat} {x : Nat → Int32} {E E' : Nat → Nat} (D : qz_D l x E) (hf : f < 5) (hs : s < 5) (h0 : ∀ j, j < 4 → E (s * 4 + j) = 0) (e1 : ∀ j, j < l → E' (s * 4 + j) = E (f * 4 + j)) (e2 : ∀ p, (p < s * 4 ∨ s * 4 + l ≤ p) → E' p = E p) : ∀ j, j < 4 → E' (s * 4 + j) = E (f * 4 + j) := by
  intro j hj
  by_cases z : j < l
  · exact e1 j z
  · rw [e2 _ (by omega), h0 j hj, qz_tail D hf hj (Or.inl (by omega))]
theorem qz_rl4 {l v : Nat} {x : Nat → Int32} {E E' : Nat → Nat} (D : qz_D l x E) (hv : v < 5) (e1 : ∀ j, j < l → E' (v * 4 + j) = 0) (e2 : ∀ p, (p < v * 4 ∨ v * 4 + l ≤ p) → E' p = E p) : ∀ j, j < 4 → E' (v * 4 + j) = 0 := by
  intro j hj
  by_cases z : j < l
  · exact e1 j z
  · rw [e2 _ (by omega), qz_tail D hv hj (Or.inl (by omega))]
