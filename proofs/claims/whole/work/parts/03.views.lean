theorem qr_PIc {E : Nat → Nat} {H H' : Nat → Int32} (e : ∀ s i, qr_Lv E s → i < 4 → H' (s * 4 + i) = H (s * 4 + i)) (P : qr_PI E H) : qr_PI E H' := by
  refine ⟨P.1, fun t L i hi => ?_⟩
  have r := P.2 t L i hi
  have z := e t i L hi
  rw [qr_Tc z, z]
  exact r
theorem qr_Lv_u0 {E : Nat → Nat} {q s : Nat} (L : qr_Lv (qr_ue E q 0) s) : qr_Lv E s := by
  obtain ⟨p, hp, e⟩ := L
  by_cases z : p = q
  · rw [z, qr_ue_s] at e; omega
  · rw [qr_ue_n z] at e; exact ⟨p, hp, e⟩
theorem qr_PIr {E : Nat → Nat} {H : Nat → Int32} (q : Nat) (P : qr_PI E H) : qr_PI (qr_ue E q 0) H := by
  refine ⟨fun p => ?_, fun t L i hi => ?_⟩
  · by_cases z : p = q
    · rw [z, qr_ue_s]; exact Nat.zero_le _
    · rw [qr_ue_n z]; exact P.1 p
  · have r := P.2 t (qr_Lv_u0 L) i hi
    refine ⟨r.1, r.2.1, fun p hp ep => ?_⟩
    by_cases z : p = q
    · rw [z, qr_ue_s] at ep; exact ep.symm
    · rw [qr_ue_n z] at ep; exact r.2.2 p hp ep
theorem qr_PIu {E : Nat → Nat} {H : Nat → Int32} {q t : Nat} (hq : q < 20) (P : qr_PI E H) (ht : t < 128) (hrow : qr_Rw E H t) (hne : ∀ s i, (qr_Lv E s ∨ s = t) → i < 4 → qr_T H (s * 4 + i) ≠ t + 1) : qr_PI (qr_ue E q (t + 1)) H := by
  refine ⟨fun p => ?_, fun s L i hi => ?_⟩
  · by_cases z : p = q
    · rw [z, qr_ue_s]; omega
    · rw [qr_ue_n z]; exact P.1 p
  · have Ls := qr_Lv_ue hq s L
    have r : H (s * 4 + i) = nI (qr_T H (s * 4 + i)) ∧ qr_T H (s * 4 + i) ≤ 128 ∧ (∀ p, p < 20 → E p = qr_T H (s * 4 + i) → qr_T H (s * 4 + i) = 0) := by
      cases Ls with
      | inl a => exact P.2 s a i hi
      | inr a => rw [a]; exact hrow i hi
    refine ⟨r.1, r.2.1, fun p hp ep => ?_⟩
    by_cases z : p = q
    · rw [z, qr_ue_s] at ep
      exact absurd ep.symm (hne s i Ls hi)
    · rw [qr_ue_n z] at ep; exact r.2.2 p hp ep
/-- what a view holds: the entry of its cluster c -/
def qv_de (E : Nat → Nat) (H : Nat → Int32) (v c : Nat) : Nat := if E (v * 4 + c / 4) = 0 then 0 else qr_T H ((E (v * 4 + c / 4) - 1) * 4 + c % 4)
def qv_C (H : Nat → Int32) (d : Nat) (f : Int32) (w : Nat → Int32) : Prop := (d = 0 ∧ f = 0) ∨ (∃ e, d = e + 1 ∧ f = 1 ∧ ∀ i, i < 4 → H (e * 4 + i) = w i)
def qv_V (E : Nat → Nat) (H : Nat → Int32) (v : Nat) (fl wd : Nat → Int32) : Prop := ∀ c, c < 16 → qv_C H (qv_de E H v c) (fl c) (fun i => wd (c * 4 + i))
def qv_S (E : Nat → Nat) (H : Nat → Int32) (E' : Nat → Nat) (H' : Nat → Int32) (v c : Nat) : Prop := qv_de E' H' v c = qv_de E H v c ∧ ∀ d, qv_de E H v c = d + 1 → ∀ i, i < 4 → H' (d * 4 + i) = H (d * 4 + i)
theorem qv_de0 {E : Nat → Nat} {H : Nat → Int32} {v c : Nat} (h : E (v * 4 + c / 4) = 0) : qv_de E H v c = 0 := if_pos h
theorem qv_det {E : Nat → Nat} {H : Nat → Int32} {v c t : Nat} (h : E (v * 4 + c / 4) = t + 1) : qv_de E H v c = qr_T H (t * 4 + c % 4) := by
  have hn : ¬ E (v * 4 + c / 4) = 0 := by omega
  unfold qv_de
  rw [if_neg hn, h, Nat.add_sub_cancel]
theorem qv_ex {E : Nat → Nat} {H : Nat → Int32} {v c d : Nat} (h : qv_de E H v c = d + 1) : ∃ t, E (v * 4 + c / 4) = t + 1 ∧ qr_T H (t * 4 + c % 4) = d + 1 := by
  by_cases z : E (v * 4 + c / 4) = 0
  · rw [qv_de0 z] at h; omega
  · have e : E (v * 4 + c / 4) = (E (v * 4 + c / 4) - 1) + 1 := by omega
    exact ⟨_, e, by rw [← qv_det e]; exact h⟩
theorem qv_Ck {E : Nat → Nat} {H : Nat → Int32} {E' : Nat → Nat} {H' : Nat → Int32} {v c : Nat} {f : Int32} {w : Nat → Int32} (S : qv_S E H E' H' v c) (C : qv_C H (qv_de E H v c) f w) : qv_C H' (qv_de E' H' v c) f w := by
  rw [S.1]
  cases C with
  | inl a => exact Or.inl a
  | inr a =>
    obtain ⟨e, he, hf, hw⟩ := a
    exact Or.inr ⟨e, he, hf, fun i hi => by rw [S.2 e he i hi]; exact hw i hi⟩
theorem qv_St {E : Nat → Nat} {H : Nat → Int32} {E' : Nat → Nat} {H' : Nat → Int32} {E'' : Nat → Nat} {H'' : Nat → Int32} {v c : Nat} (S : qv_S E H E' H' v c) (S' : qv_S E' H' E'' H'' v c) : qv_S E H E'' H'' v c := by
  refine ⟨by rw [S'.1, S.1], fun d hd i hi => ?_⟩
  rw [S'.2 d (by rw [S.1]; exact hd) i hi]
  exact S.2 d hd i hi
theorem qv_Vk {E : Nat → Nat} {H : Nat → Int32} {E' : Nat → Nat} {H' : Nat → Int32} {v : Nat} {fl wd : Nat → Int32} (S : ∀ c, c < 16 → qv_S E H E' H' v c) (V : qv_V E H v fl wd) : qv_V E' H' v fl wd :=
  fun c hc => qv_Ck (S c hc) (V c hc)
theorem qv_SE {E : Nat → Nat} {H : Nat → Int32} {E' : Nat → Nat} {v c : Nat} (e : E' (v * 4 + c / 4) = E (v * 4 + c / 4)) : qv_S E H E' H v c := by
  refine ⟨?_, fun _ _ _ _ => rfl⟩
  unfold qv_de
  rw [e]
/-- a view whose L1 entries are another's shows the same -/
theorem qv_Vc {E : Nat → Nat} {H : Nat → Int32} {E' : Nat → Nat} {v v' : Nat} {fl wd : Nat → Int32} (e : ∀ j, j < 4 → E' (v' * 4 + j) = E (v * 4 + j)) (V : qv_V E H v fl wd) : qv_V E' H v' fl wd := by
  intro c hc
  have h : qv_de E' H v' c = qv_de E H v c := by
    unfold qv_de
    rw [e (c / 4) (by omega)]
  rw [h]
  exact V c hc
theorem qv_Vz {E : Nat → Nat} {H : Nat → Int32} {v : Nat} {fl wd : Nat → Int32} (e : ∀ j, j < 4 → E (v * 4 + j) = 0) (f : ∀ c, c < 16 → fl c = 0) : qv_V E H v fl wd := by
  intro c hc
  exact Or.inl ⟨qv_de0 (e (c / 4) (by omega)), f c hc⟩
/-- a new table for the entry at q, empty or a copy -/
theorem qt_row {E : Nat → Nat} {H H' : Nat → Int32} {q t : Nat} (P : qr_PI E H) (hq : q < 20) (h0 : qr_ref E H t = 0) (hz : E q = 0 → ∀ i, i < 4 → H' (t * 4 + i) = 0) (hc : ∀ e, E q = e + 1 → ∀ i, i < 4 → H' (t * 4 + i) = H (e * 4 + i)) : ∀ i, i < 4 → (H' (t * 4 + i) = nI (qr_T H' (t * 4 + i)) ∧ qr_T H' (t * 4 + i) ≤ 128 ∧ (∀ p, p < 20 → E p = qr_T H' (t * 4 + i) → qr_T H' (t * 4 + i) = 0)) ∧ qr_T H' (t * 4 + i) ≠ t + 1 := by
  intro i hi
  by_cases z : E q = 0
  · have a : H' (t * 4 + i) = nI 0 := hz z i hi
    have b : qr_T H' (t * 4 + i) = 0 := qr_Tn a (by omega)
    rw [b]
    exact ⟨⟨a, Nat.zero_le _, fun _ _ _ => rfl⟩, by omega⟩
  · have e : E q = (E q - 1) + 1 := by omega
    have L : qr_Lv E (E q - 1) := ⟨q, hq, e⟩
    have a := hc _ e i hi
    have b : qr_T H' (t * 4 + i) = qr_T H ((E q - 1) * 4 + i) := by unfold qr_T; rw [a]
    rw [b, a]
    exact ⟨P.2 _ L i hi, qr_freeT P h0 L hi⟩
theorem qt_tab {E : Nat → Nat} {H H' : Nat → Int32} {q t : Nat} (P : qr_PI E H) (hq : q < 20) (ht : t < 128) (h0 : qr_ref E H t = 0) (hr : ∀ s i, s ≠ t → i < 4 → H' (s * 4 + i) = H (s * 4 + i)) (hz : E q = 0 → ∀ i, i < 4 → H' (t * 4 + i) = 0) (hc : ∀ e, E q = e + 1 → ∀ i, i < 4 → H' (t * 4 + i) = H (e * 4 + i)) : qr_PI (qr_ue E q (t + 1)) H' ∧ (∀ v c, v < 5 → c < 16 → qv_S E H (qr_ue E q (t + 1)) H' v c) ∧ qr_nE (qr_ue E q (t + 1)) t = 1 := by
  have nl : ¬ qr_Lv E t := qr_free h0
  have ns : ∀ s, qr_Lv E s → s ≠ t := fun s L z => nl (z ▸ L)
  have hr' : ∀ s i, qr_Lv E s → i < 4 → H' (s * 4 + i) = H (s * 4 + i) := fun s i L hi => hr s i (ns s L) hi
  have P1 : qr_PI E H' := qr_PIc hr' P
  have row := qt_row P hq h0 hz hc
  have rowT : ∀ s i, qr_Lv E s → i < 4 → qr_T H' (s * 4 + i) = qr_T H (s * 4 + i) := fun s i L hi => qr_Tc (hr' s i L hi)
  refine ⟨qr_PIu hq P1 ht (fun i hi => (row i hi).1) ?_, ?_, ?_⟩
  · intro s i Ls hi
    cases Ls with
    | inl L => rw [rowT s i L hi]; exact qr_freeT P h0 L hi
    | inr e => rw [e]; exact (row i hi).2
  · intro v c hv hcc
    have hp : v * 4 + c / 4 < 20 := by omega
    have hk : c % 4 < 4 := by omega
    refine ⟨?_, fun d hd i hi => ?_⟩
    · by_cases z : v * 4 + c / 4 = q
      · have e1 : qr_ue E q (t + 1) (v * 4 + c / 4) = t + 1 := by rw [z, qr_ue_s]
        rw [qv_det e1]
        by_cases y : E q = 0
        · have y' : E (v * 4 + c / 4) = 0 := by rw [z]; exact y
          have a : H' (t * 4 + c % 4) = nI 0 := hz y _ hk
          rw [qv_de0 y']
          exact qr_Tn a (by omega)
        · have e : E q = (E q - 1) + 1 := by omega
          have e2 : E (v * 4 + c / 4) = (E q - 1) + 1 := by rw [z]; exact e
          rw [qv_det e2]
          have a := hc _ e _ hk
          unfold qr_T
          rw [a]
      · have e1 : qr_ue E q (t + 1) (v * 4 + c / 4) = E (v * 4 + c / 4) := qr_ue_n z
        by_cases y : E (v * 4 + c / 4) = 0
        · rw [qv_de0 y, qv_de0 (e1.trans y)]
        · have e : E (v * 4 + c / 4) = (E (v * 4 + c / 4) - 1) + 1 := by omega
          rw [qv_det e, qv_det (e1.trans e)]
          exact rowT _ _ ⟨_, hp, e⟩ hk
    · obtain ⟨s, es, et⟩ := qv_ex hd
      have hdt : d ≠ t := by
        intro z
        rw [z] at et
        exact qr_freeT P h0 ⟨_, hp, es⟩ hk et
      exact hr d i hdt hi
  · have a := qr_nE_ue (E := qr_ue E q 0) (t := t) hq (qr_ue_s _ _ _) t
    rw [qr_ue2, qs_b1 rfl, qr_nE0 (fun L => nl (qr_Lv_u0 L))] at a
    exact a
theorem qt_tab0 {E : Nat → Nat} {H H' : Nat → Int32} {q t : Nat} (hq : q < 20) (ht : t < 128) (h0 : qr_ref E H t = 0) (hr : ∀ s i, s ≠ t → i < 4 → H' (s * 4 + i) = H (s * 4 + i)) (hE : E q = 0) (hz : ∀ i, i < 4 → H' (t * 4 + i) = 0) (h : Nat) : qr_ref (qr_ue E q (t + 1)) H' h = qr_ref E H h + qs_b t h := by
  have nl : ¬ qr_Lv E t := qr_free h0
  have a := qr_refE (H := H') hq hE ht h
  have b := qr_refc (E := E) (fun s i L hi => hr s i (fun z => nl (z ▸ L)) hi) h
  have c : qr_nT H' t h = 0 := qs_zero 4 (fun i hi => qs_b0 (by
    have y : qr_T H' (t * 4 + i) = 0 := qr_Tn (w := 0) (hz i hi) (by omega)
    omega))
  rw [qr_dR0 nl] at a
  omega
theorem qt_rel {E : Nat → Nat} {H : Nat → Int32} {q e : Nat} (hq : q < 20) (he : e < 128) (hE : E q = e + 1) : qr_nE E e = qr_nE (qr_ue E q 0) e + 1 ∧ ∀ h, qr_ref E H h + qr_dR (qr_ue E q 0) H e h = qr_ref (qr_ue E q 0) H h + qs_b e h + qr_nT H e h := by
  have z : qr_ue (qr_ue E q 0) q (e + 1) = E := by rw [qr_ue2, qr_ue_id hE]
  have a := qr_nE_ue (E := qr_ue E q 0) (t := e) hq (qr_ue_s _ _ _) e
  rw [z, qs_b1 rfl] at a
  refine ⟨a, fun h => ?_⟩
  have b := qr_refE (E := qr_ue E q 0) (H := H) hq (qr_ue_s _ _ _) he h
  rw [z] at b
  exact b
theorem qt_tab1 {E : Nat → Nat} {H H' : Nat → Int32} {q t e : Nat} (hq : q < 20) (ht : t < 128) (he : e < 128) (h0 : qr_ref E H t = 0) (hr : ∀ s i, s ≠ t → i < 4 → H' (s * 4 + i) = H (s * 4 + i)) (hE : E q = e + 1) (h1 : qr_nE E e ≠ 1) (h : Nat) : qr_ref (qr_ue E q (t + 1)) H' h + qs_b e h = qr_ref E H h + qs_b t h + qr_nT H' t h := by
  have nl : ¬ qr_Lv E t := qr_free h0
  have nl' : ¬ qr_Lv (qr_ue E q 0) t := fun L => nl (qr_Lv_u0 L)
  obtain ⟨r1, r2⟩ := qt_rel (H := H) hq he hE
  have Le : qr_Lv (qr_ue E q 0) e := by
    have : 0 < qr_nE E e := qr_lv.mpr ⟨q, hq, hE⟩
    exact qr_lv.mp (by omega)
  have a := r2 h
  rw [qr_dR1 Le] at a
  have b := qr_refE (E := qr_ue E q 0) (H := H') hq (qr_ue_s _ _ _) ht h
  rw [qr_ue2, qr_dR0 nl'] at b
  have c := qr_refc (E := qr_ue E q 0) (H := H) (H' := H') (fun s i L hi => hr s i (fun z => nl' (z ▸ L)) hi) h
  omega
theorem qt_shr {E : Nat → Nat} {H : Nat → Int32} {q t : Nat} (P : qr_PI E H) (hq : q < 20) (h0 : E q = 0) (L : qr_Lv E t) : qr_PI (qr_ue E q (t + 1)) H ∧ ∀ h, qr_ref (qr_ue E q (t + 1)) H h = qr_ref E H h + qs_b t h := by
  have ht := qr_Lt P L
  refine ⟨qr_PIu hq P ht (P.2 t L) ?_, fun h => ?_⟩
  · intro s i Ls hi e
    have Ls' : qr_Lv E s := Ls.elim (fun a => a) (fun a => a ▸ L)
    obtain ⟨p, hp, ep⟩ := L
    have := (P.2 s Ls' i hi).2.2 p hp (by rw [ep, e])
    omega
  · have a := qr_refE (H := H) hq h0 ht h
    rw [qr_dR1 L] at a
    omega
/-- one entry of a table of the active image alone -/
theorem qt_cell {E : Nat → Nat} {H H' : Nat → Int32} {q t k w : Nat} (P : qr_PI E H) (hq : q < 20) (hE : E q = t + 1) (h1 : qr_nE E t = 1) (hk : k < 4) (hw : w ≤ 128) (hwE : ∀ p, p < 20 → E p = w → w = 0) (hs : H' (t * 4 + k) = nI w) (hr : ∀ s i, qr_Lv E s → i < 4 → (s ≠ t ∨ i ≠ k) → H' (s * 4 + i) = H (s * 4 + i)) : qr_PI E H' ∧ (∀ h, qr_ref E H' h + qs_b (qr_T H (t * 4 + k)) (h + 1) = qr_ref E H h + qs_b w (h + 1)) ∧ (∀ v c, v < 5 → c < 16 → (v * 4 + c / 4 ≠ q ∨ c % 4 ≠ k) → qv_de E H' v c = qv_de E H v c) ∧ (∀ v c, v * 4 + c / 4 = q → c % 4 = k → qv_de E H' v c = w) := by
  have L : qr_Lv E t := ⟨q, hq, hE⟩
  have ht := qr_Lt P L
  have hT : qr_T H' (t * 4 + k) = w := qr_Tn hs (by omega)
  refine ⟨⟨P.1, fun s Ls i hi => ?_⟩, fun h => ?_, fun v c hv hc hn => ?_, fun v c e1 e2 => ?_⟩
  · by_cases z : s = t ∧ i = k
    · rw [z.1, z.2, hT]
      exact ⟨hs, hw, hwE⟩
    · have e := hr s i Ls hi (by omega)
      rw [qr_Tc e, e]
      exact P.2 s Ls i hi
  · have a := qr_refC (H := H) (H' := H') L ht hk hr h
    rw [hT] at a
    exact a
  · have hp : v * 4 + c / 4 < 20 := by omega
    by_cases y : E (v * 4 + c / 4) = 0
    · rw [qv_de0 y, qv_de0 y]
    · have e : E (v * 4 + c / 4) = (E (v * 4 + c / 4) - 1) + 1 := by omega
      rw [qv_det e, qv_det e]
      refine qr_Tc (hr _ _ ⟨_, hp, e⟩ (by omega) ?_)
      by_cases z : E (v * 4 + c / 4) - 1 = t
      · right
        have u := qr_uniE h1 hp hq (by rw [e, z]) hE
        omega
      · exact Or.inl z
  · rw [← e1] at hE
    rw [qv_det hE, e2]
    exact hT
/-- a free cluster becomes the data of cluster c of the active image -/
theorem qt_dat {E : Nat → Nat} {H H' : Nat → Int32} {q c t d : Nat} (P : qr_PI E H) (hc : c < 16) (hq : q = 16 + c / 4) (hE : E q = t + 1) (h1 : qr_nE E t = 1) (hd : d < 128) (h0 : qr_ref E H d = 0) (hp : H' (t * 4 + c % 4) = nI (d + 1)) (hr : ∀ s i, s ≠ d → i < 4 → (s ≠ t ∨ i ≠ c % 4) → H' (s * 4 + i) = H (s * 4 + i)) : qr_PI E H' ∧ (∀ h, qr_ref E H' h + qs_b (qr_T H (t * 4 + c % 4)) (h + 1) = qr_ref E H h + qs_b d h) ∧ (∀ v c', v < 5 → c' < 16 → (v ≠ 4 ∨ c' ≠ c) → qv_S E H E H' v c') ∧ qr_ref E H' d = 1 ∧ qv_de E H' 4 c = d + 1 := by
  have nl : ¬ qr_Lv E d := qr_free h0
  have hq' : q < 20 := by omega
  have hk : c % 4 < 4 := by omega
  have L : qr_Lv E t := ⟨q, hq', hE⟩
  have R := qt_cell (w := d + 1) (k := c % 4) P hq' hE h1 hk (by omega) (fun p hp e => absurd ⟨p, hp, e⟩ nl) hp (fun s i Ls hi hn => hr s i (fun z => nl (z ▸ Ls)) hi hn)
  obtain ⟨R1, R2, R3, R4⟩ := R
  have R2' : ∀ h, qr_ref E H' h + qs_b (qr_T H (t * 4 + c % 4)) (h + 1) = qr_ref E H h + qs_b d h := by
    intro h
    have := R2 h
    rw [qs_bs] at this
    exact this
  refine ⟨R1, R2', fun v c' hv hc' hn => ⟨R3 v c' hv hc' (by omega), fun d' hd' i hi => ?_⟩, ?_, R4 4 c (by omega) rfl⟩
  · obtain ⟨s, es, et⟩ := qv_ex hd'
    have Ls : qr_Lv E s := ⟨_, by omega, es⟩
    have hk' : c' % 4 < 4 := by omega
    refine hr d' i ?_ hi (Or.inl ?_)
    · intro z
      rw [z] at et
      exact qr_freeT P h0 Ls hk' et
    · intro z
      have := (P.2 s Ls _ hk').2.2 q hq' (by rw [hE, et, z])
      omega
  · have a := R2' d
    have b : qr_T H (t * 4 + c % 4) ≠ d + 1 := qr_freeT P h0 L hk
    rw [qs_b0 b, qs_b1 rfl] at a
    omega
/-- the entry of cluster c of the active image goes -/
theorem qt_dis {E : Nat → Nat} {H : Nat → Int32} {q c t : Nat} (P : qr_PI E H) (hc : c < 16) (hq : q = 16 + c / 4) (hE : E q = t + 1) (h1 : qr_nE E t = 1) : qr_PI E (upd H (t * 4 + c % 4) 0) ∧ (∀ h, qr_ref E (upd H (t * 4 + c % 4) 0) h + qs_b (qr_T H (t * 4 + c % 4)) (h + 1) = qr_ref E H h) ∧ (∀ v c', v < 5 → c' < 16 → (v ≠ 4 ∨ c' ≠ c) → qv_S E H E (upd H (t * 4 + c % 4) 0) v c') ∧ qv_de E (upd H (t * 4 + c % 4) 0) 4 c = 0 := by
  have hq' : q < 20 := by omega
  have hk : c % 4 < 4 := by omega
  have L : qr_Lv E t := ⟨q, hq', hE⟩
  have hu : ∀ j, j ≠ t * 4 + c % 4 → upd H (t * 4 + c % 4) 0 j = H j := fun j hj => if_neg hj
  have hs : upd H (t * 4 + c % 4) 0 (t * 4 + c % 4) = nI 0 := if_pos rfl
  have R := qt_cell (w := 0) (k := c % 4) P hq' hE h1 hk (by omega) (fun p hp e => rfl) hs (fun s i Ls hi hn => hu _ (by omega))
  obtain ⟨R1, R2, R3, R4⟩ := R
  refine ⟨R1, fun h => ?_, fun v c' hv hc' hn => ⟨R3 v c' hv hc' (by omega), fun d' hd' i hi => ?_⟩, R4 4 c (by omega) rfl⟩
  · have := R2 h
    rw [qs_b0 (a := 0) (b := h + 1) (by omega)] at this
    exact this
  · obtain ⟨s, es, et⟩ := qv_ex hd'
    have Ls : qr_Lv E s := ⟨_, by omega, es⟩
    have hk' : c' % 4 < 4 := by omega
    refine hu _ ?_
    have : d' ≠ t := by
      intro z
      have := (P.2 s Ls _ hk').2.2 q hq' (by rw [hE, et, z])
      omega
    omega
/-- a word of the data cluster of the active image alone -/
theorem qt_sto {E : Nat → Nat} {H : Nat → Int32} {q c t d j : Nat} {x : Int32} (P : qr_PI E H) (hc : c < 16) (hq : q = 16 + c / 4) (hE : E q = t + 1) (h1 : qr_nE E t = 1) (hT : qr_T H (t * 4 + c % 4) = d + 1) (hd : qr_ref E H d = 1) (hj : j < 4) : qr_PI E (upd H (d * 4 + j) x) ∧ (∀ h, qr_ref E (upd H (d * 4 + j) x) h = qr_ref E H h) ∧ (∀ v c', v < 5 → c' < 16 → (v ≠ 4 ∨ c' ≠ c) → qv_S E H E (upd H (d * 4 + j) x) v c') ∧ qv_de E (upd H (d * 4 + j) x) 4 c = d + 1 := by
  have hq' : q < 20 := by omega
  have hk : c % 4 < 4 := by omega
  have L : qr_Lv E t := ⟨q, hq', hE⟩
  have hu : ∀ y, y ≠ d * 4 + j → upd H (d * 4 + j) x y = H y := fun y hy => if_neg hy
  have nd : ¬ qr_Lv E d := by
    intro ⟨p, hp, ep⟩
    have := (P.2 t L _ hk).2.2 p hp (by rw [ep, hT])
    omega
  have hr : ∀ s i, qr_Lv E s → i < 4 → upd H (d * 4 + j) x (s * 4 + i) = H (s * 4 + i) := by
    intro s i Ls hi
    have : s ≠ d := fun z => nd (z ▸ Ls)
    exact hu _ (by omega)
  have de : ∀ v c', v < 5 → c' < 16 → qv_de E (upd H (d * 4 + j) x) v c' = qv_de E H v c' := by
    intro v c' hv hc'
    by_cases y : E (v * 4 + c' / 4) = 0
    · rw [qv_de0 y, qv_de0 y]
    · have e : E (v * 4 + c' / 4) = (E (v * 4 + c' / 4) - 1) + 1 := by omega
      rw [qv_det e, qv_det e]
      exact qr_Tc (hr _ _ ⟨_, by omega, e⟩ (by omega))
  refine ⟨qr_PIc hr P, fun h => qr_refc hr h, fun v c' hv hc' hn => ⟨de v c' hv hc', fun d' hd' i hi => ?_⟩, ?_⟩
  · obtain ⟨s, es, et⟩ := qv_ex hd'
    have hp : v * 4 + c' / 4 < 20 := by omega
    have Ls : qr_Lv E s := ⟨_, hp, es⟩
    have hk' : c' % 4 < 4 := by omega
    refine hu _ ?_
    have : d' ≠ d := by
      intro z
      rw [z] at et
      have u := qr_uniT P hd Ls L hk' hk et hT
      have w := qr_uniE h1 hp hq' (by rw [es, u.1]) hE
      omega
    omega
  · rw [de 4 c (by omega) hc]
    have e : E (4 * 4 + c / 4) = t + 1 := by
      have : 4 * 4 + c / 4 = q := by omega
      rw [this]; exact hE
    rw [qv_det e]
    exact hT
