theorem qw_le {post : Int32 → Prop} {l : Nat} {b e x H c : Nat → Int32} {E : Nat → Nat} {p : Nat} (hp : p < 20) (hl : l ≤ 4) (D : qz_D l x E) (k0 : E p = 0 → post 0) (k1 : post 1) : wpX_isLiveL1Entry post (nI l, b, e, x, H, c) (nI p) := by
  have kz : (x (p / 4) ≠ 1 ∨ l ≤ p % 4) → post 0 := by
    intro h
    apply k0
    by_cases z : E p = 0
    · exact z
    · have a := D p hp z
      cases h with
      | inl h => exact absurd a.2 h
      | inr h => omega
  unfold wpX_isLiveL1Entry
  dsimp only
  rw [qx_r4 (by omega), qx_d4 (by omega), nI_clamp (by omega)]
  refine ⟨qx_40, vp_in_nI (by omega) (by omega), br_c (fun z => kz (Or.inl ?_)) (fun z => ⟨qx_40, ?_⟩)⟩
  · rw [z]; decide
  · by_cases y : p % 4 < l
    · exact br_f (nI_ge y (by omega)) k1
    · exact br_t (nI_le (by omega) (by omega)) (kz (Or.inr (by omega)))
theorem qw_nb {post : Int32 → Prop} {l : Nat} {b x H c : Nat → Int32} {E : Nat → Nat} {p : Nat} (hp : p < 20) (hl : l ≤ 4) (D : qz_D l x E) (hE : ∀ p, E p ≤ 128) (hn : E p ≠ 0) (k0 : (∀ j, j < p → E j ≠ E p) → post 0) (k1 : ∀ j, j < p → E j = E p → post 1) : wpX_isNamedBefore post (nI l, b, fun p => nI (E p), x, H, c) (nI p) := by
  have w : ∀ d j, j + d = p → (∀ i, i < j → E i ≠ E p) → wX_isNamedBefore_2 post (nI p) (nI l) b (fun p => nI (E p)) x H c (d + 1) (nI j) := by
    intro d
    induction d with
    | zero =>
      intro j hj hh
      have e : j = p := by omega
      rw [e] at hh
      rw [e]
      exact br_t (nI_le (Nat.le_refl p) (by omega)) (k0 hh)
    | succ d ih =>
      intro j hj hh
      refine br_f (nI_ge (a := j) (b := p) (by omega) (by omega)) (qw_le (by omega) hl D (fun z => br_t rfl (nm_r (nI_1 j) (ih (j + 1) (by omega) (fun i hi => ?_)))) (br_f qx_10 ⟨vp_in_nI (by omega) (by omega), vp_in_nI (by omega) (by omega), ?_⟩))
      · by_cases e : i = j
        · rw [e, z]; exact fun y => hn y.symm
        · exact hh i (by omega)
      · rw [nI_clamp (by omega), nI_clamp (by omega)]
        have a := hE j
        have a' := hE p
        by_cases y : E j = E p
        · exact br_t (congrArg nI y) (k1 j (by omega) y)
        · refine br_f (fun v => y ((nI_eq (by omega) (by omega)).mp v)) (nm_r (nI_1 j) (ih (j + 1) (by omega) (fun i hi => ?_)))
          by_cases e : i = j
          · rw [e]; exact y
          · exact hh i (by omega)
  exact ⟨p + 1, w p 0 (by omega) (fun i hi => absurd hi (Nat.not_lt_zero i))⟩
theorem qw_lt {post : Int32 → Prop} {l : Nat} {b x H c : Nat → Int32} {E : Nat → Nat} (hl : l ≤ 4) (D : qz_D l x E) (hE : ∀ p, E p ≤ 128) (kp : ∀ M, qk_M E 20 M → post M) : wpX_liveTables post (nI l, b, fun p => nI (E p), x, H, c) := by
  refine loop_0 (fun n i (M : Int32) => wX_liveTables_4 post (nI l) b (fun p => nI (E p)) x H c n M (nI i)) (fun i M => qk_M E i M) 20 0 (qk_M0 E) (fun n M hM => ?_) (fun n i M hi hM k => ?_)
  · exact br_t (nI_le (a := 20) (by omega) (by omega)) (kp M hM)
  · have he : (fun p => nI (E p)) (nI i).toNatClampNeg = nI (E i) := by rw [nI_clamp (by omega)]
    refine br_f (nI_ge (b := 20) hi (by omega)) ⟨vp_in_nI hi (by omega), nm_r he (qw_le hi hl D (fun z => br_t rfl (nm_r (nI_1 i) (k M (qk_Mn hM (fun F => F.1 z))))) (br_f qx_10 (qw_nh (hE i) (fun z => br_t rfl (nm_r (nI_1 i) (k M (qk_Mn hM (fun F => F.1 z))))) (fun t z => br_f qx_10 (qw_nb hi hl D hE (by omega) (fun hno => br_t rfl (nm_e (nm_r (nI_1 i) (k _ (qk_Ms (by omega) hM ⟨by omega, hno⟩))))) (fun j hj ej => br_f qx_10 (nm_r (nI_1 i) (k M (qk_Mn hM (fun F => F.2 j hj ej))))))))))⟩
theorem qw_st {post : Int32 → Prop} {u : SX} {w : Nat} (hw : w ≤ 128) (k : post 0) : wpX_isStray post u (nI w) := by
  obtain ⟨l, b, e, x, H, c⟩ := u
  exact br_f (nI_pos (by omega)) (br_t (nI_le (b := 128) hw (by omega)) k)
theorem qw_s1 {post : Int32 → Prop} {l : Nat} {b x H c : Nat → Int32} {E : Nat → Nat} (hl : l ≤ 4) (D : qz_D l x E) (hE : ∀ p, E p ≤ 128) (kp : post 0) : wpX_strayL1Entries post (nI l, b, fun p => nI (E p), x, H, c) := by
  refine loop_0 (fun n i (_ : Unit) => wX_strayL1Entries_4 post (nI l) b (fun p => nI (E p)) x H c n 0 (nI i)) (fun _ _ => True) 20 () trivial (fun n _ _ => ?_) (fun n i _ hi _ k => ?_)
  · exact br_t (nI_le (a := 20) (by omega) (by omega)) kp
  · refine br_f (nI_ge (b := 20) hi (by omega)) (qw_le hi hl D (fun z => br_t rfl (nm_r (nI_1 i) (k () trivial))) (br_f qx_10 ⟨vp_in_nI hi (by omega), ?_⟩))
    rw [nI_clamp (by omega)]
    exact qw_st (hE i) (br_t rfl (nm_r (nI_1 i) (k () trivial)))
theorem qw_ta {post : Int32 → Prop} {u : SX} {M : Int32} {p : Nat} (hp : p < 32) (k0 : bt M p = false → post 0) (k1 : bt M p = true → post 1) : wpX_isTableAt post u M (nI p) := by
  obtain ⟨l, b, e, x, H, c⟩ := u
  refine br_c (fun z => k0 ((qb_at M p hp).mp z)) (fun z => k1 ?_)
  cases hb : bt M p with
  | true => rfl
  | false => exact absurd ((qb_at M p hp).mpr hb) z
theorem qw_se {post : Int32 → Prop} {l : Int32} {b e x H c : Nat → Int32} {t : Nat} (ht : t < 128) (hrow : ∀ i, i < 4 → H (t * 4 + i) = nI (qr_T H (t * 4 + i)) ∧ qr_T H (t * 4 + i) ≤ 128) (kp : post 0) : wpX_strayEntriesIn post (l, b, e, x, H, c) (nI t) := by
  refine loop_0 (fun n i (_ : Unit) => wX_strayEntriesIn_4 post (nI t) l b e x H c n 0 (nI i)) (fun _ _ => True) 4 () trivial (fun n _ _ => ?_) (fun n i _ hi _ k => ?_)
  · exact br_t (nI_le (a := 4) (by omega) (by omega)) kp
  · refine br_f (nI_ge (b := 4) hi (by omega)) ⟨qx_in (by omega) (by omega), ?_⟩
    rw [qx_cl (by omega), (hrow i hi).1]
    exact qw_st (hrow i hi).2 (br_t rfl (nm_r (nI_1 i) (k () trivial)))
theorem qw_s2 {post : Int32 → Prop} {l : Int32} {b x H c : Nat → Int32} {E : Nat → Nat} {M : Int32} (P : qr_PI E H) (hM : qk_M E 20 M) (kp : post 0) : wpX_strayL2Entries post (l, b, fun p => nI (E p), x, H, c) M := by
  refine loop_0 (fun n i (_ : Unit) => wX_strayL2Entries_4 post M l b (fun p => nI (E p)) x H c n 0 (nI i)) (fun _ _ => True) 20 () trivial (fun n _ _ => ?_) (fun n i _ hi _ k => ?_)
  · exact br_t (nI_le (a := 20) (by omega) (by omega)) kp
  · refine br_f (nI_ge (b := 20) hi (by omega)) (qw_ta (by omega) (fun _ => br_t rfl (nm_r (nI_1 i) (k () trivial))) (fun z => br_f qx_10 ⟨vp_in_nI hi (by omega), ?_⟩))
    have F := ((hM i (by omega)).mp z).2
    have e : E i = (E i - 1) + 1 := by have := F.1; omega
    have L : qr_Lv E (E i - 1) := ⟨i, hi, e⟩
    have ea : (fun p => nI (E p)) (nI i).toNatClampNeg - 1 = nI (E i - 1) := by
      rw [nI_clamp (by omega)]
      show nI (E i) - 1 = nI (E i - 1)
      rw [e, nI_pred, Nat.add_sub_cancel]
    rw [ea]
    exact qw_se (qr_Lt P L) (fun j hj => ⟨(P.2 _ L j hj).1, (P.2 _ L j hj).2.1⟩) (nm_r (e' := 0) rfl (nm_r (nI_1 i) (k () trivial)))
theorem qw_ni {post : Int32 → Prop} {l : Int32} {b e x H c : Nat → Int32} {t h : Nat} (ht : t < 128) (hh : h < 128) (hrow : ∀ i, i < 4 → H (t * 4 + i) = nI (qr_T H (t * 4 + i)) ∧ qr_T H (t * 4 + i) ≤ 128) (kp : post (nI (qr_nT H t h))) : wpX_namingsIn post (l, b, e, x, H, c) (nI t) (nI h) := by
  refine loop_0 (fun n i (_ : Unit) => wX_namingsIn_5 post (nI t) (nI h) l b e x H c n (nI (qr_p H t h i)) (nI i)) (fun _ _ => True) 4 () trivial (fun n _ _ => ?_) (fun n i _ hi _ k => ?_)
  · exact br_t (nI_le (a := 4) (by omega) (by omega)) kp
  · have R := hrow i hi
    refine br_f (nI_ge (b := 4) hi (by omega)) ⟨qx_in (by omega) (by omega), ?_⟩
    rw [qx_cl (by omega), R.1, nI_1 h]
    by_cases y : qr_T H (t * 4 + i) = h + 1
    · have e : nI (qr_p H t h i) + 1 = nI (qr_p H t h (i + 1)) := by
        rw [qr_pw y, qs_b1 rfl, nI_1]
      exact br_t (congrArg nI y) (nm_r e (nm_r (nI_1 i) (k () trivial)))
    · have e : nI (qr_p H t h i) = nI (qr_p H t h (i + 1)) := by
        rw [qr_ps, qs_b0 y, Nat.add_zero]
      rw [e]
      exact br_f (fun v => y ((nI_eq (by omega) (by omega)).mp v)) (nm_r (nI_1 i) (k () trivial))
theorem qw_r37 {post : Int32 → Prop} {J : Int32 → Int32 → Prop} {l : Int32} {b x H c : Nat → Int32} {E : Nat → Nat} {M : Int32} {h i a : Nat} (P : qr_PI E H) (hM : qk_M E 20 M) (hi : i < 20) (hh : h < 128) (kp : J (nI (a + qk_w E (fun t => qr_nT H t h) i)) (nI (i + 1))) : wX_references_37 post J (nI h) M (nI a) (nI i) l b (fun p => nI (E p)) x H c := by
  have hM' := hM i (by omega)
  refine qw_ta (by omega) (fun z => br_t rfl (nm_r (nI_1 i) ?_)) (fun z => br_f qx_10 ⟨vp_in_nI hi (by omega), ?_⟩)
  · have F : ¬ qk_F E i := by
      intro F
      have := hM'.mpr ⟨hi, F⟩
      rw [z] at this
      exact absurd this (by decide)
    rw [qk_w0 F, Nat.add_zero] at kp
    exact kp
  · have F := (hM'.mp z).2
    have e : E i = (E i - 1) + 1 := by have := F.1; omega
    have L : qr_Lv E (E i - 1) := ⟨i, hi, e⟩
    have ea : (fun p => nI (E p)) (nI i).toNatClampNeg - 1 = nI (E i - 1) := by
      rw [nI_clamp (by omega)]
      show nI (E i) - 1 = nI (E i - 1)
      rw [e, nI_pred, Nat.add_sub_cancel]
    rw [ea]
    rw [qk_w1 F] at kp
    exact qw_ni (qr_Lt P L) hh (fun j hj => ⟨(P.2 _ L j hj).1, (P.2 _ L j hj).2.1⟩) (nm_r (nI_add a _) (nm_r (nI_1 i) kp))
theorem qw_rf {post : Int32 → Prop} {l : Nat} {b x H c : Nat → Int32} {E : Nat → Nat} {M : Int32} {h : Nat} (hl : l ≤ 4) (D : qz_D l x E) (P : qr_PI E H) (hM : qk_M E 20 M) (hh : h < 128) (kp : post (nI (qr_ref E H h))) : wpX_references post (nI l, b, fun p => nI (E p), x, H, c) (nI h) M := by
  have hw : ∀ i, qs_sm (fun p => qs_b (E p) (h + 1) + qk_w E (fun t => qr_nT H t h) p) (i + 1) = qs_sm (fun p => qs_b (E p) (h + 1) + qk_w E (fun t => qr_nT H t h) p) i + (qs_b (E i) (h + 1) + qk_w E (fun t => qr_nT H t h) i) := fun i => rfl
  refine loop_0 (fun n i (_ : Unit) => wX_references_5 post (nI h) M (nI l) b (fun p => nI (E p)) x H c n (nI (qs_sm (fun p => qs_b (E p) (h + 1) + qk_w E (fun t => qr_nT H t h) p) i)) (nI i)) (fun _ _ => True) 20 () trivial (fun n _ _ => ?_) (fun n i _ hi _ k => ?_)
  · refine br_t (nI_le (a := 20) (by omega) (by omega)) ?_
    rw [qk_ref P.1]
    exact kp
  · have k' := k () trivial
    rw [hw i] at k'
    refine br_f (nI_ge (b := 20) hi (by omega)) (qw_le hi hl D (fun z => br_t rfl (qw_r37 P hM hi hh ?_)) (br_f qx_10 ⟨vp_in_nI hi (by omega), ?_⟩))
    · rw [z, qs_b0 (a := 0) (b := h + 1) (by omega), Nat.zero_add] at k'
      exact k'
    · have a := P.1 i
      rw [nI_clamp (by omega), nI_1 h]
      by_cases y : E i = h + 1
      · refine br_t (congrArg nI y) (nm_r (nI_1 _) (qw_r37 P hM hi hh ?_))
        rw [qs_b1 y, ← Nat.add_assoc] at k'
        exact k'
      · refine br_f (fun v => y ((nI_eq (by omega) (by omega)).mp v)) (qw_r37 P hM hi hh ?_)
        rw [qs_b0 y, Nat.zero_add] at k'
        exact k'
theorem qw_ck {post : Int32 → Prop} {l : Nat} {b x H : Nat → Int32} {E : Nat → Nat} (hl : l ≤ 4) (D : qz_D l x E) (P : qr_PI E H) (kp : post 0) : wpX_check post (nI l, b, fun p => nI (E p), x, H, fun h => nI (qr_ref E H h)) := by
  refine qw_lt hl D P.1 (fun M hM => qw_s1 hl D P.1 (qw_s2 P hM (nm_r (e' := 0) rfl ?_)))
  refine loop_0 (fun n i (_ : Unit) => wX_check_18 post M (nI l) b (fun p => nI (E p)) x H (fun h => nI (qr_ref E H h)) n 0 (nI i)) (fun _ _ => True) 128 () trivial (fun n _ _ => ?_) (fun n i _ hi _ k => ?_)
  · exact br_t (nI_le (a := 128) (by omega) (by omega)) kp
  · refine br_f (nI_ge (b := 128) hi (by omega)) ⟨vp_in_nI hi (by omega), qw_rf hl D P hM hi (br_t ?_ (nm_r (nI_1 i) (k () trivial)))⟩
    rw [nI_clamp (by omega)]
