/-- n words from o on -/
def qh_s (A : Nat → Int32) (o : Nat) (W : Nat → Int32) (n : Nat) : Nat → Int32 := fun j => if o ≤ j ∧ j < o + n then W (j - o) else A j
theorem qh_in {A W : Nat → Int32} {o n i : Nat} (h : i < n) : qh_s A o W n (o + i) = W i := by
  unfold qh_s
  rw [if_pos ⟨by omega, by omega⟩, Nat.add_sub_cancel_left]
theorem qh_out {A W : Nat → Int32} {o n j : Nat} (h : j < o ∨ o + n ≤ j) : qh_s A o W n j = A j := by
  unfold qh_s
  exact if_neg (by omega)
theorem qh_0 (A W : Nat → Int32) (o : Nat) : qh_s A o W 0 = A := by
  funext j
  exact qh_out (by omega)
theorem qh_step {A W : Nat → Int32} {o n : Nat} {x : Int32} (hx : x = W n) : upd (qh_s A o W n) (o + n) x = qh_s A o W (n + 1) := by
  funext j
  by_cases e : j = o + n
  · rw [e, qh_in (Nat.lt_succ_self n), hx]
    exact pk_us
  · refine (pk_un e).trans ?_
    by_cases z : j < o ∨ o + n ≤ j
    · rw [qh_out z, qh_out (by omega)]
    · obtain ⟨i, rfl⟩ : ∃ i, j = o + i := ⟨j - o, by omega⟩
      rw [qh_in (by omega), qh_in (by omega)]
theorem qh_cong {A W W' : Nat → Int32} {o n : Nat} (h : ∀ i, i < n → W i = W' i) : qh_s A o W n = qh_s A o W' n := by
  funext j
  by_cases z : j < o ∨ o + n ≤ j
  · rw [qh_out z, qh_out z]
  · obtain ⟨i, rfl⟩ : ∃ i, j = o + i := ⟨j - o, by omega⟩
    rw [qh_in (by omega), qh_in (by omega), h i (by omega)]
theorem qv_Cw {H : Nat → Int32} {d : Nat} {f f' : Int32} {w w' : Nat → Int32} (hf : f' = f) (h : ∀ i, i < 4 → w' i = w i) (C : qv_C H d f w) : qv_C H d f' w' := by
  rw [hf]
  cases C with
  | inl a => exact Or.inl a
  | inr a =>
    obtain ⟨e, he, h1, hw⟩ := a
    exact Or.inr ⟨e, he, h1, fun i hi => by rw [h i hi]; exact hw i hi⟩
theorem qv_Vf {E : Nat → Nat} {H : Nat → Int32} {v : Nat} {fl wd fl' wd' : Nat → Int32} (hf : ∀ c, c < 16 → fl' c = fl c) (hw : ∀ a, a < 64 → wd' a = wd a) (V : qv_V E H v fl wd) : qv_V E H v fl' wd' :=
  fun c hc => qv_Cw (hf c hc) (fun i hi => hw (c * 4 + i) (by omega)) (V c hc)
theorem qv_f01 {E : Nat → Nat} {H : Nat → Int32} {v : Nat} {fl wd : Nat → Int32} (V : qv_V E H v fl wd) {c : Nat} (hc : c < 16) : fl c = 0 ∨ fl c = 1 := by
  cases V c hc with
  | inl a => exact Or.inl a.2
  | inr a => obtain ⟨_, _, h, _⟩ := a; exact Or.inr h
def qz_D (l : Nat) (x : Nat → Int32) (E : Nat → Nat) : Prop := ∀ p, p < 20 → E p ≠ 0 → p % 4 < l ∧ x (p / 4) = 1
def qz_W (E : Nat → Nat) (H aA aD sE sA sD : Nat → Int32) : Prop := qv_V E H 4 aA aD ∧ ∀ s, s < 4 → sE s = 1 → qv_V E H s (fun c => sA (s * 16 + c)) (fun a => sD (s * 64 + a))
theorem qz_cell {E E' : Nat → Nat} {H H' aA aD sE sA sD aA' aD' : Nat → Int32} {c : Nat} (hc : c < 16) (W : qz_W E H aA aD sE sA sD) (S : ∀ v c', v < 5 → c' < 16 → (v ≠ 4 ∨ c' ≠ c) → qv_S E H E' H' v c') (hA : ∀ c', c' < 16 → c' ≠ c → aA' c' = aA c') (hD : ∀ c', c' < 16 → c' ≠ c → ∀ i, i < 4 → aD' (c' * 4 + i) = aD (c' * 4 + i)) (C : qv_C H' (qv_de E' H' 4 c) (aA' c) (fun i => aD' (c * 4 + i))) : qz_W E' H' aA' aD' sE sA sD := by
  refine ⟨fun c' hc' => ?_, fun s hs h1 => ?_⟩
  · by_cases e : c' = c
    · rw [e]; exact C
    · exact qv_Cw (hA c' hc' e) (hD c' hc' e) (qv_Ck (S 4 c' (by omega) hc' (Or.inr e)) (W.1 c' hc'))
  · exact qv_Vk (fun c' hc' => S s c' (by omega) hc' (Or.inl (by omega))) (W.2 s hs h1)
theorem qz_keep {E E' : Nat → Nat} {H H' aA aD sE sA sD : Nat → Int32} (W : qz_W E H aA aD sE sA sD) (S : ∀ v c', v < 5 → c' < 16 → qv_S E H E' H' v c') : qz_W E' H' aA aD sE sA sD :=
  ⟨qv_Vk (fun c hc => S 4 c (by omega) hc) W.1, fun s hs h1 => qv_Vk (fun c hc => S s c (by omega) hc) (W.2 s hs h1)⟩
theorem qz_create {E E' : Nat → Nat} {H aA aD sE sA sD : Nat → Int32} {s : Nat} (hs : s < 4) (W : qz_W E H aA aD sE sA sD) (h0 : ∀ j, j < 4 → E' (s * 4 + j) = E (4 * 4 + j)) (h1 : ∀ p, (p < s * 4 ∨ s * 4 + 4 ≤ p) → E' p = E p) : qz_W E' H aA aD (upd sE s 1) (qh_s sA (s * 16) aA 16) (qh_s sD (s * 64) aD 64) := by
  refine ⟨qv_Vc (fun j hj => h1 _ (by omega)) W.1, fun s' hs' e1 => ?_⟩
  by_cases e : s' = s
  · rw [e]
    refine qv_Vf (fun c hc => ?_) (fun a ha => ?_) (qv_Vc h0 W.1)
    · exact qh_in hc
    · exact qh_in ha
  · have e2 : sE s' = 1 := (pk_un e).symm.trans e1
    refine qv_Vf (fun c hc => ?_) (fun a ha => ?_) (qv_Vc (fun j hj => h1 _ (by omega)) (W.2 s' hs' e2))
    · exact qh_out (by omega)
    · exact qh_out (by omega)
theorem qz_delete {E E' : Nat → Nat} {H aA aD sE sA sD : Nat → Int32} {s : Nat} (hs : s < 4) (W : qz_W E H aA aD sE sA sD) (h1 : ∀ p, (p < s * 4 ∨ s * 4 + 4 ≤ p) → E' p = E p) : qz_W E' H aA aD (upd sE s 0) sA sD := by
  refine ⟨qv_Vc (fun j hj => h1 _ (by omega)) W.1, fun s' hs' e1 => ?_⟩
  by_cases e : s' = s
  · rw [e] at e1
    exact absurd (pk_us.symm.trans e1) (by decide)
  · have e2 : sE s' = 1 := (pk_un e).symm.trans e1
    exact qv_Vc (fun j hj => h1 _ (by omega)) (W.2 s' hs' e2)
theorem qz_apply {E E' : Nat → Nat} {H aA aD sE sA sD : Nat → Int32} {s : Nat} (hs : s < 4) (hx : sE s = 1) (W : qz_W E H aA aD sE sA sD) (h0 : ∀ j, j < 4 → E' (4 * 4 + j) = E (s * 4 + j)) (h1 : ∀ p, p < 16 → E' p = E p) : qz_W E' H (qh_s aA 0 (fun c => sA (s * 16 + c)) 16) (qh_s aD 0 (fun a => sD (s * 64 + a)) 64) sE sA sD := by
  refine ⟨?_, fun s' hs' e1 => qv_Vc (fun j hj => h1 _ (by omega)) (W.2 s' hs' e1)⟩
  refine qv_Vf (fun c hc => ?_) (fun a ha => ?_) (qv_Vc h0 (W.2 s hs hx))
  · have := qh_in (A := aA) (o := 0) (W := fun c => sA (s * 16 + c)) hc
    rw [Nat.zero_add] at this
    exact this
  · have := qh_in (A := aD) (o := 0) (W := fun a => sD (s * 64 + a)) ha
    rw [Nat.zero_add] at this
    exact this
theorem qz_commit {E E' : Nat → Nat} {H aA aD sE sA sD : Nat → Int32} (W : qz_W E H aA aD sE sA sD) (h0 : ∀ j, j < 4 → E' (4 * 4 + j) = 0) (h1 : ∀ p, p < 16 → E' p = E p) : qz_W E' H (qh_s aA 0 (fun _ => 0) 16) aD sE sA sD := by
  refine ⟨qv_Vz h0 (fun c hc => ?_), fun s' hs' e1 => qv_Vc (fun j hj => h1 _ (by omega)) (W.2 s' hs' e1)⟩
  have := qh_in (A := aA) (o := 0) (W := fun _ => 0) hc
  rw [Nat.zero_add] at this
  exact this
theorem qz_Dcr {l : Nat} {x : Nat → Int32} {E E' : Nat → Nat} {s f : Nat} (hf : f < 5) (D : qz_D l x E) (h0 : ∀ j, j < 4 → E' (s * 4 + j) = E (f * 4 + j)) (h1 : ∀ p, (p < s * 4 ∨ s * 4 + 4 ≤ p) → E' p = E p) : qz_D l (upd x s 1) E' := by
  intro p hp hn
  by_cases z : p < s * 4 ∨ s * 4 + 4 ≤ p
  · rw [h1 p z] at hn
    have a := D p hp hn
    have e : p / 4 ≠ s := by omega
    exact ⟨a.1, (pk_un e).trans a.2⟩
  · obtain ⟨j, rfl⟩ : ∃ j, p = s * 4 + j := ⟨p - s * 4, by omega⟩
    rw [h0 j (by omega)] at hn
    have a := (D (f * 4 + j) (by omega) hn).1
    have e : (s * 4 + j) / 4 = s := by omega
    rw [e]
    exact ⟨by omega, pk_us⟩
theorem qz_Dz {l : Nat} {x x' : Nat → Int32} {E E' : Nat → Nat} {s : Nat} (D : qz_D l x E) (hx : ∀ s', s' ≠ s → x' s' = x s') (h0 : ∀ j, j < 4 → E' (s * 4 + j) = 0) (h1 : ∀ p, (p < s * 4 ∨ s * 4 + 4 ≤ p) → E' p = E p) : qz_D l x' E' := by
  intro p hp hn
  by_cases z : p < s * 4 ∨ s * 4 + 4 ≤ p
  · rw [h1 p z] at hn
    have a := D p hp hn
    have e : p / 4 ≠ s := by omega
    exact ⟨a.1, (hx _ e).trans a.2⟩
  · obtain ⟨j, rfl⟩ : ∃ j, p = s * 4 + j := ⟨p - s * 4, by omega⟩
    exact absurd (h0 j (by omega)) hn
theorem qz_upd1 {x : Nat → Int32} {s : Nat} (h : x s = 1) : upd x s 1 = x := by
  funext j
  by_cases e : j = s
  · rw [e, h]; exact pk_us
  · exact pk_un e
theorem qz_D1 {l q : Nat} {x : Nat → Int32} {E E' : Nat → Nat} (D : qz_D l x E) (hq : q % 4 < l ∧ x (q / 4) = 1) (h1 : ∀ p, p ≠ q → E' p = E p) : qz_D l x E' := by
  intro p hp hn
  by_cases e : p = q
  · rw [e]; exact hq
  · rw [h1 p e] at hn
    exact D p hp hn
/-- the relation of the two states, without their tuples -/
def qz_R (l : Nat) (E : Nat → Nat) (H x aA aD sE sA sD : Nat → Int32) : Prop := (1 ≤ l ∧ l ≤ 4) ∧ qr_PI E H ∧ qz_D l x E ∧ x 4 = 1 ∧ (∀ s, s < 4 → x s = sE s ∧ (sE s = 0 ∨ sE s = 1)) ∧ qz_W E H aA aD sE sA sD
theorem qz_lv0 (t : Nat) : ¬ qr_Lv (fun _ => 0) t := by
  intro ⟨p, _, e⟩
  have e' : 0 = t + 1 := e
  omega
theorem qz_ref0 (H : Nat → Int32) (h : Nat) : qr_ref (fun _ => 0) H h = 0 := by
  have a : qs_sm (fun s => qr_dR (fun _ => 0) H s h) 128 = 0 := qs_zero 128 (fun s _ => qr_dR0 (qz_lv0 s))
  have b := qr_nE0 (qz_lv0 h)
  unfold qr_ref
  omega
theorem qz_init {l : Nat} {x : Nat → Int32} (hl : 1 ≤ l ∧ l ≤ 4) (h4 : x 4 = 1) (h0 : ∀ s, s < 4 → x s = 0) : qz_R l (fun _ => 0) (fun _ => 0) x (fun _ => 0) (fun _ => 0) (fun _ => 0) (fun _ => 0) (fun _ => 0) := by
  refine ⟨hl, ⟨fun _ => Nat.zero_le _, fun t L => absurd L (qz_lv0 t)⟩, fun p _ h => absurd rfl h, h4, fun s hs => ⟨h0 s hs, Or.inl rfl⟩, qv_Vz (fun _ _ => rfl) (fun _ _ => rfl), fun s _ h => ?_⟩
  have h' : (0 : Int32) = 1 := h
  exact absurd h' (by decide)
theorem qz_cnt0 : (fun _ => (0 : Int32)) = fun h => nI (qr_ref (fun _ => 0) (fun _ => (0 : Int32)) h) := by
  funext h
  rw [qz_ref0]
  rfl
