/-- an entry of the store as a natural number -/
def qr_T (H : Nat → Int32) (j : Nat) : Nat := (H j).toNatClampNeg
def qr_nE (E : Nat → Nat) (h : Nat) : Nat := qs_sm (fun p => qs_b (E p) (h + 1)) 20
def qr_nT (H : Nat → Int32) (t h : Nat) : Nat := qs_sm (fun i => qs_b (qr_T H (t * 4 + i)) (h + 1)) 4
def qr_dR (E : Nat → Nat) (H : Nat → Int32) (t h : Nat) : Nat := if 0 < qr_nE E t then qr_nT H t h else 0
def qr_ref (E : Nat → Nat) (H : Nat → Int32) (h : Nat) : Nat := qr_nE E h + qs_sm (fun t => qr_dR E H t h) 128
def qr_ue (E : Nat → Nat) (q x : Nat) : Nat → Nat := fun p => if p = q then x else E p
def qr_Lv (E : Nat → Nat) (t : Nat) : Prop := ∃ p, p < 20 ∧ E p = t + 1
def qr_Rw (E : Nat → Nat) (H : Nat → Int32) (t : Nat) : Prop := ∀ i, i < 4 → H (t * 4 + i) = nI (qr_T H (t * 4 + i)) ∧ qr_T H (t * 4 + i) ≤ 128 ∧ (∀ p, p < 20 → E p = qr_T H (t * 4 + i) → qr_T H (t * 4 + i) = 0)
def qr_PI (E : Nat → Nat) (H : Nat → Int32) : Prop := (∀ p, E p ≤ 128) ∧ ∀ t, qr_Lv E t → qr_Rw E H t
theorem qr_ue_s (E : Nat → Nat) (q x : Nat) : qr_ue E q x q = x := if_pos rfl
theorem qr_ue_n {E : Nat → Nat} {q x p : Nat} (h : p ≠ q) : qr_ue E q x p = E p := if_neg h
theorem qr_ue2 (E : Nat → Nat) (q x y : Nat) : qr_ue (qr_ue E q x) q y = qr_ue E q y := by
  funext p
  by_cases e : p = q
  · rw [e, qr_ue_s, qr_ue_s]
  · rw [qr_ue_n e, qr_ue_n e, qr_ue_n e]
theorem qr_ue_id {E : Nat → Nat} {q x : Nat} (h : E q = x) : qr_ue E q x = E := by
  funext p
  by_cases e : p = q
  · rw [e, qr_ue_s, h]
  · rw [qr_ue_n e]
theorem qr_Tn {H : Nat → Int32} {j w : Nat} (h : H j = nI w) (hw : w < 2 ^ 31) : qr_T H j = w := by
  unfold qr_T
  rw [h, nI_clamp hw]
theorem qr_Tc {H H' : Nat → Int32} {j : Nat} (h : H' j = H j) : qr_T H' j = qr_T H j := by
  unfold qr_T
  rw [h]
theorem qr_lv {E : Nat → Nat} {t : Nat} : 0 < qr_nE E t ↔ qr_Lv E t := by
  constructor
  · intro h
    obtain ⟨k, hk, h1⟩ := qs_pos (f := fun p => qs_b (E p) (t + 1)) 20 h
    exact ⟨k, hk, qs_bp h1⟩
  · intro ⟨p, hp, e⟩
    have h : qs_b (E p) (t + 1) ≤ qr_nE E t := qs_ge (f := fun p => qs_b (E p) (t + 1)) 20 hp
    rw [qs_b1 e] at h
    omega
theorem qr_nE0 {E : Nat → Nat} {t : Nat} (h : ¬ qr_Lv E t) : qr_nE E t = 0 := by
  by_cases e : 0 < qr_nE E t
  · exact absurd (qr_lv.mp e) h
  · omega
theorem qr_nEle (E : Nat → Nat) (t : Nat) : qr_nE E t ≤ 20 := by
  have h : qr_nE E t ≤ 20 * 1 := qs_lec (f := fun p => qs_b (E p) (t + 1)) 1 20 (fun p _ => qs_ble _ _)
  omega
theorem qr_nTle (H : Nat → Int32) (t h : Nat) : qr_nT H t h ≤ 4 := by
  have h : qr_nT H t h ≤ 4 * 1 := qs_lec (f := fun i => qs_b (qr_T H (t * 4 + i)) (h + 1)) 1 4 (fun p _ => qs_ble _ _)
  omega
theorem qr_dRle (E : Nat → Nat) (H : Nat → Int32) (t h : Nat) : qr_dR E H t h ≤ 4 := by
  unfold qr_dR
  have a := qr_nTle H t h
  by_cases e : 0 < qr_nE E t
  · rw [if_pos e]; exact a
  · rw [if_neg e]; exact Nat.zero_le 4
theorem qr_refle (E : Nat → Nat) (H : Nat → Int32) (h : Nat) : qr_ref E H h ≤ 532 := by
  have a := qr_nEle E h
  have b : qs_sm (fun t => qr_dR E H t h) 128 ≤ 128 * 4 := qs_lec (f := fun t => qr_dR E H t h) 4 128 (fun t _ => qr_dRle E H t h)
  unfold qr_ref
  omega
theorem qr_dR1 {E : Nat → Nat} {H : Nat → Int32} {t h : Nat} (L : qr_Lv E t) : qr_dR E H t h = qr_nT H t h := if_pos (qr_lv.mpr L)
theorem qr_dR0 {E : Nat → Nat} {H : Nat → Int32} {t h : Nat} (L : ¬ qr_Lv E t) : qr_dR E H t h = 0 := if_neg (fun e => L (qr_lv.mp e))
theorem qr_nTc {H H' : Nat → Int32} {t h : Nat} (e : ∀ i, i < 4 → H' (t * 4 + i) = H (t * 4 + i)) : qr_nT H' t h = qr_nT H t h :=
  qs_congr 4 (fun i hi => by
    show qs_b (qr_T H' (t * 4 + i)) (h + 1) = qs_b (qr_T H (t * 4 + i)) (h + 1)
    rw [qr_Tc (e i hi)])
theorem qr_nE_ue {E : Nat → Nat} {q t : Nat} (hq : q < 20) (h0 : E q = 0) (h : Nat) : qr_nE (qr_ue E q (t + 1)) h = qr_nE E h + qs_b t h := by
  have a : qr_nE (qr_ue E q (t + 1)) h + qs_b (E q) (h + 1) = qr_nE E h + qs_b (qr_ue E q (t + 1) q) (h + 1) :=
    qs_one (f := fun p => qs_b (qr_ue E q (t + 1) p) (h + 1)) (g := fun p => qs_b (E p) (h + 1)) (k := q) 20 hq (fun i _ hi => by
      show qs_b (qr_ue E q (t + 1) i) (h + 1) = qs_b (E i) (h + 1)
      rw [qr_ue_n hi])
  rw [qr_ue_s, qs_bs, h0, qs_b0 (by omega)] at a
  exact a
theorem qr_Lv_ue {E : Nat → Nat} {q t : Nat} (hq : q < 20) (s : Nat) : qr_Lv (qr_ue E q (t + 1)) s → qr_Lv E s ∨ s = t := by
  intro ⟨p, hp, e⟩
  by_cases hpq : p = q
  · rw [hpq, qr_ue_s] at e
    exact Or.inr (by omega)
  · rw [qr_ue_n hpq] at e
    exact Or.inl ⟨p, hp, e⟩
theorem qr_Lv_ueR {E : Nat → Nat} {q t s : Nat} (h0 : E q = 0) (L : qr_Lv E s) : qr_Lv (qr_ue E q (t + 1)) s := by
  obtain ⟨p, hp, e⟩ := L
  have hpq : p ≠ q := by intro z; rw [z] at e; omega
  exact ⟨p, hp, by rw [qr_ue_n hpq]; exact e⟩
theorem qr_refE {E : Nat → Nat} {H : Nat → Int32} {q t : Nat} (hq : q < 20) (h0 : E q = 0) (ht : t < 128) (h : Nat) : qr_ref (qr_ue E q (t + 1)) H h + qr_dR E H t h = qr_ref E H h + qs_b t h + qr_nT H t h := by
  have a : qs_sm (fun s => qr_dR (qr_ue E q (t + 1)) H s h) 128 + qr_dR E H t h = qs_sm (fun s => qr_dR E H s h) 128 + qr_dR (qr_ue E q (t + 1)) H t h :=
    qs_one (f := fun s => qr_dR (qr_ue E q (t + 1)) H s h) (g := fun s => qr_dR E H s h) (k := t) 128 ht (fun s _ hs => by
      show qr_dR (qr_ue E q (t + 1)) H s h = qr_dR E H s h
      by_cases L : qr_Lv E s
      · rw [qr_dR1 L, qr_dR1 (qr_Lv_ueR h0 L)]
      · have L' : ¬ qr_Lv (qr_ue E q (t + 1)) s := fun z => (qr_Lv_ue hq s z).elim L hs
        rw [qr_dR0 L, qr_dR0 L'])
  have Lt : qr_Lv (qr_ue E q (t + 1)) t := ⟨q, hq, qr_ue_s _ _ _⟩
  have b := qr_nE_ue (t := t) hq h0 h
  rw [qr_dR1 Lt] at a
  unfold qr_ref
  omega
theorem qr_refc {E : Nat → Nat} {H H' : Nat → Int32} (e : ∀ s i, qr_Lv E s → i < 4 → H' (s * 4 + i) = H (s * 4 + i)) (h : Nat) : qr_ref E H' h = qr_ref E H h := by
  have a : qs_sm (fun s => qr_dR E H' s h) 128 = qs_sm (fun s => qr_dR E H s h) 128 := qs_congr 128 (fun s _ => by
    show qr_dR E H' s h = qr_dR E H s h
    by_cases L : qr_Lv E s
    · rw [qr_dR1 L, qr_dR1 L, qr_nTc (fun i hi => e s i L hi)]
    · rw [qr_dR0 L, qr_dR0 L])
  unfold qr_ref
  rw [a]
theorem qr_nT1 {H H' : Nat → Int32} {t k : Nat} (hk : k < 4) (e : ∀ i, i < 4 → i ≠ k → H' (t * 4 + i) = H (t * 4 + i)) (h : Nat) : qr_nT H' t h + qs_b (qr_T H (t * 4 + k)) (h + 1) = qr_nT H t h + qs_b (qr_T H' (t * 4 + k)) (h + 1) :=
  qs_one (f := fun i => qs_b (qr_T H' (t * 4 + i)) (h + 1)) (g := fun i => qs_b (qr_T H (t * 4 + i)) (h + 1)) (k := k) 4 hk (fun i hi hn => by
    show qs_b (qr_T H' (t * 4 + i)) (h + 1) = qs_b (qr_T H (t * 4 + i)) (h + 1)
    rw [qr_Tc (e i hi hn)])
theorem qr_refC {E : Nat → Nat} {H H' : Nat → Int32} {t k : Nat} (L : qr_Lv E t) (ht : t < 128) (hk : k < 4) (e : ∀ s i, qr_Lv E s → i < 4 → (s ≠ t ∨ i ≠ k) → H' (s * 4 + i) = H (s * 4 + i)) (h : Nat) : qr_ref E H' h + qs_b (qr_T H (t * 4 + k)) (h + 1) = qr_ref E H h + qs_b (qr_T H' (t * 4 + k)) (h + 1) := by
  have a : qs_sm (fun s => qr_dR E H' s h) 128 + qr_dR E H t h = qs_sm (fun s => qr_dR E H s h) 128 + qr_dR E H' t h :=
    qs_one (f := fun s => qr_dR E H' s h) (g := fun s => qr_dR E H s h) (k := t) 128 ht (fun s _ hs => by
      show qr_dR E H' s h = qr_dR E H s h
      by_cases Ls : qr_Lv E s
      · rw [qr_dR1 Ls, qr_dR1 Ls, qr_nTc (fun i hi => e s i Ls hi (Or.inl hs))]
      · rw [qr_dR0 Ls, qr_dR0 Ls])
  have b := qr_nT1 (H := H) (H' := H') hk (fun i hi hn => e t i L hi (Or.inr hn)) h
  rw [qr_dR1 L, qr_dR1 L] at a
  unfold qr_ref
  omega
/-- a cluster without a reference -/
theorem qr_free {E : Nat → Nat} {H : Nat → Int32} {h : Nat} (z : qr_ref E H h = 0) : ¬ qr_Lv E h := by
  intro L
  have a := qr_lv.mpr L
  unfold qr_ref at z
  omega
theorem qr_Lt {E : Nat → Nat} {H : Nat → Int32} (P : qr_PI E H) {t : Nat} (L : qr_Lv E t) : t < 128 := by
  obtain ⟨p, _, e⟩ := L
  have := P.1 p
  omega
theorem qr_named {E : Nat → Nat} {H : Nat → Int32} (P : qr_PI E H) {t i h : Nat} (L : qr_Lv E t) (hi : i < 4) (e : qr_T H (t * 4 + i) = h + 1) : 0 < qr_ref E H h := by
  have a : qs_b (qr_T H (t * 4 + i)) (h + 1) ≤ qr_nT H t h := qs_ge (f := fun i => qs_b (qr_T H (t * 4 + i)) (h + 1)) 4 hi
  have b : qr_dR E H t h ≤ qs_sm (fun s => qr_dR E H s h) 128 := qs_ge (f := fun s => qr_dR E H s h) 128 (qr_Lt P L)
  rw [qs_b1 e] at a
  rw [qr_dR1 L] at b
  unfold qr_ref
  omega
theorem qr_freeT {E : Nat → Nat} {H : Nat → Int32} (P : qr_PI E H) {t i h : Nat} (z : qr_ref E H h = 0) (L : qr_Lv E t) (hi : i < 4) : qr_T H (t * 4 + i) ≠ h + 1 := by
  intro e
  have := qr_named P L hi e
  omega
theorem qr_tref {E : Nat → Nat} {H : Nat → Int32} (P : qr_PI E H) {t : Nat} (L : qr_Lv E t) : qr_ref E H t = qr_nE E t := by
  have a : qs_sm (fun s => qr_dR E H s t) 128 = 0 := qs_zero 128 (fun s _ => by
    show qr_dR E H s t = 0
    by_cases Ls : qr_Lv E s
    · rw [qr_dR1 Ls]
      exact qs_zero 4 (fun i hi => qs_b0 (fun e => by
        obtain ⟨p, hp, ep⟩ := L
        have := (P.2 s Ls i hi).2.2 p hp (by rw [ep, e])
        omega))
    · exact qr_dR0 Ls)
  unfold qr_ref
  omega
theorem qr_uniE {E : Nat → Nat} {t p q : Nat} (h1 : qr_nE E t = 1) (hp : p < 20) (hq : q < 20) (ep : E p = t + 1) (eq : E q = t + 1) : p = q := by
  by_cases e : p = q
  · exact e
  · have a : qs_b (E p) (t + 1) + qs_b (E q) (t + 1) ≤ qr_nE E t := qs_ge2 (f := fun p => qs_b (E p) (t + 1)) 20 hp hq e
    rw [qs_b1 ep, qs_b1 eq] at a
    omega
theorem qr_uniT {E : Nat → Nat} {H : Nat → Int32} (P : qr_PI E H) {d t i s j : Nat} (h1 : qr_ref E H d = 1) (Lt : qr_Lv E t) (Ls : qr_Lv E s) (hi : i < 4) (hj : j < 4) (et : qr_T H (t * 4 + i) = d + 1) (es : qr_T H (s * 4 + j) = d + 1) : t = s ∧ i = j := by
  have u : qr_ref E H d = qr_nE E d + qs_sm (fun t => qr_dR E H t d) 128 := rfl
  by_cases e : t = s
  · refine ⟨e, ?_⟩
    by_cases e2 : i = j
    · exact e2
    · rw [← e] at es
      have a : qs_b (qr_T H (t * 4 + i)) (d + 1) + qs_b (qr_T H (t * 4 + j)) (d + 1) ≤ qr_nT H t d := qs_ge2 (f := fun i => qs_b (qr_T H (t * 4 + i)) (d + 1)) 4 hi hj e2
      have b : qr_dR E H t d ≤ qs_sm (fun s => qr_dR E H s d) 128 := qs_ge (f := fun s => qr_dR E H s d) 128 (qr_Lt P Lt)
      rw [qs_b1 et, qs_b1 es] at a
      rw [qr_dR1 Lt] at b
      omega
  · have a : qs_b (qr_T H (t * 4 + i)) (d + 1) ≤ qr_nT H t d := qs_ge (f := fun i => qs_b (qr_T H (t * 4 + i)) (d + 1)) 4 hi
    have a' : qs_b (qr_T H (s * 4 + j)) (d + 1) ≤ qr_nT H s d := qs_ge (f := fun i => qs_b (qr_T H (s * 4 + i)) (d + 1)) 4 hj
    have b : qr_dR E H t d + qr_dR E H s d ≤ qs_sm (fun s => qr_dR E H s d) 128 := qs_ge2 (f := fun s => qr_dR E H s d) 128 (qr_Lt P Lt) (qr_Lt P Ls) e
    rw [qs_b1 et] at a
    rw [qs_b1 es] at a'
    rw [qr_dR1 Lt, qr_dR1 Ls] at b
    omega
/-- at most 100 references: one of the first 127 clusters is free -/
theorem qr_sumE (E : Nat → Nat) (n : Nat) : qs_sm (fun h => qr_nE E h) n ≤ 20 := by
  have e : qs_sm (fun h => qr_nE E h) n = qs_sm (fun p => qs_sm (fun h => qs_b (E p) (h + 1)) n) 20 := qs_swap (fun h p => qs_b (E p) (h + 1)) 20 n
  have a : qs_sm (fun p => qs_sm (fun h => qs_b (E p) (h + 1)) n) 20 ≤ 20 * 1 := qs_lec (f := fun p => qs_sm (fun h => qs_b (E p) (h + 1)) n) 1 20 (fun p _ => qs_at (E p) n)
  omega
theorem qr_sumT (H : Nat → Int32) (t n : Nat) : qs_sm (fun h => qr_nT H t h) n ≤ 4 := by
  have e : qs_sm (fun h => qr_nT H t h) n = qs_sm (fun i => qs_sm (fun h => qs_b (qr_T H (t * 4 + i)) (h + 1)) n) 4 := qs_swap (fun h i => qs_b (qr_T H (t * 4 + i)) (h + 1)) 4 n
  have a : qs_sm (fun i => qs_sm (fun h => qs_b (qr_T H (t * 4 + i)) (h + 1)) n) 4 ≤ 4 * 1 := qs_lec (f := fun i => qs_sm (fun h => qs_b (qr_T H (t * 4 + i)) (h + 1)) n) 1 4 (fun i _ => qs_at (qr_T H (t * 4 + i)) n)
  omega
theorem qr_sumD (E : Nat → Nat) (H : Nat → Int32) (n : Nat) : qs_sm (fun h => qs_sm (fun t => qr_dR E H t h) 128) n ≤ 80 := by
  have e : qs_sm (fun h => qs_sm (fun t => qr_dR E H t h) 128) n = qs_sm (fun t => qs_sm (fun h => qr_dR E H t h) n) 128 := qs_swap (fun h t => qr_dR E H t h) 128 n
  have a : qs_sm (fun t => qs_sm (fun h => qr_dR E H t h) n) 128 ≤ qs_sm (fun t => 4 * qr_nE E t) 128 := qs_le 128 (fun t _ => by
    show qs_sm (fun h => qr_dR E H t h) n ≤ 4 * qr_nE E t
    by_cases L : qr_Lv E t
    · have b : qs_sm (fun h => qr_dR E H t h) n = qs_sm (fun h => qr_nT H t h) n := qs_congr n (fun h _ => qr_dR1 L)
      have c := qr_sumT H t n
      have d := qr_lv.mpr L
      omega
    · have b : qs_sm (fun h => qr_dR E H t h) n = 0 := qs_zero n (fun h _ => qr_dR0 L)
      omega)
  have b : qs_sm (fun t => 4 * qr_nE E t) 128 = 4 * qs_sm (fun t => qr_nE E t) 128 := qs_mulc (fun t => qr_nE E t) 4 128
  have c := qr_sumE E 128
  omega
theorem qr_room (E : Nat → Nat) (H : Nat → Int32) : ∃ h, h < 127 ∧ qr_ref E H h = 0 := by
  by_cases e : ∃ h, h < 127 ∧ qr_ref E H h = 0
  · exact e
  · exfalso
    have a : 127 ≤ qs_sm (fun h => qr_ref E H h) 127 := qs_many (f := fun h => qr_ref E H h) 127 (fun h hh => by
      show 0 < qr_ref E H h
      by_cases z : qr_ref E H h = 0
      · exact absurd ⟨h, hh, z⟩ e
      · omega)
    have b : qs_sm (fun h => qr_ref E H h) 127 = qs_sm (fun h => qr_nE E h) 127 + qs_sm (fun h => qs_sm (fun t => qr_dR E H t h) 128) 127 := qs_add (fun h => qr_nE E h) (fun h => qs_sm (fun t => qr_dR E H t h) 128) 127
    have c := qr_sumE E 127
    have d := qr_sumD E H 127
    omega
