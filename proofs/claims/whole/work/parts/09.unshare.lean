theorem qv_Sr (E : Nat → Nat) (H : Nat → Int32) (v c : Nat) : qv_S E H E H v c := ⟨rfl, fun _ _ _ _ => rfl⟩
theorem qw_ut81 {post : Int32 → SX → Prop} {l : Int32} {b x H c : Nat → Int32} {E : Nat → Nat} {q f : Nat} (hq : q < 20) (k : post (nI f) (l, b, fun p => nI (qr_ue E q (f + 1) p), x, H, c)) : wX_unsharedTable_81 post (nI q) (nI f) l b (fun p => nI (E p)) x H c := by
  have he : upd (fun p => nI (E p)) (nI q).toNatClampNeg (nI f + 1) = fun p => nI (qr_ue E q (f + 1) p) := by
    rw [nI_clamp (by omega), nI_1]
    exact qi_ue E q (f + 1)
  exact ⟨vp_in_nI hq (by omega), nm_r he k⟩
def qw_K (post : Int32 → SX → Prop) (l : Int32) (b x H : Nat → Int32) (E : Nat → Nat) (q : Nat) : Prop := ∀ (E' : Nat → Nat) (H' : Nat → Int32) (t : Nat), qr_PI E' H' → E' q = t + 1 → qr_nE E' t = 1 → (∀ v c, v < 5 → c < 16 → qv_S E H E' H' v c) → (∀ p, p ≠ q → E' p = E p) → post (nI t) (l, b, fun p => nI (E' p), x, H', fun h => nI (qr_ref E' H' h))
theorem qw_ut40a {post : Int32 → SX → Prop} {l : Int32} {b x H : Nat → Int32} {E : Nat → Nat} {q : Nat} {y : Int32} (P : qr_PI E H) (hq : q < 20) (hE : E q = 0) (K : qw_K post l b x H E q) : wX_unsharedTable_40 post (nI q) y 0 l b (fun p => nI (E p)) x H (fun h => nI (qr_ref E H h)) := by
  obtain ⟨f, hf, f0, fn⟩ := qr_first E H
  unfold wX_unsharedTable_40
  refine qw_take (r := fun h => qr_ref E H h) f hf f0 fn (fun j => by have := qr_refle E H j; show qr_ref E H j < 2 ^ 31; omega) ?_
  have hr : ∀ s i, s ≠ f → i < 4 → qh_s H (f * 4) (fun _ => 0) 4 (s * 4 + i) = H (s * 4 + i) := fun s i hs hi => qh_out (by omega)
  have hz : ∀ i, i < 4 → qh_s H (f * 4) (fun _ => 0) 4 (f * 4 + i) = 0 := fun i hi => qh_in hi
  have ec : upd (fun h => nI (qr_ref E H h)) f 1 = fun h => nI (qr_ref (qr_ue E q (f + 1)) (qh_s H (f * 4) (fun _ => 0) 4) h) :=
    qi_new (r := fun h => qr_ref E H h) (r' := fun h => qr_ref (qr_ue E q (f + 1)) (qh_s H (f * 4) (fun _ => 0) 4) h) f0 (fun h => qt_tab0 hq (by omega) f0 hr hE hz h)
  rw [ec]
  refine br_t rfl (qw_clear (by omega) (qw_ut81 hq ?_))
  obtain ⟨t1, t2, t3⟩ := qt_tab P hq (by omega) f0 hr (fun _ => hz) (fun e z => by omega)
  exact K _ _ f t1 (qr_ue_s _ _ _) t3 t2 (fun p hp => qr_ue_n hp)
theorem qw_ut40b {post : Int32 → SX → Prop} {l : Int32} {b x H : Nat → Int32} {E : Nat → Nat} {q e : Nat} (P : qr_PI E H) (hq : q < 20) (hE : E q = e + 1) (h1 : qr_nE E e ≠ 1) (K : qw_K post l b x H E q) : wX_unsharedTable_40 post (nI q) (nI (e + 1)) 1 l b (fun p => nI (E p)) x H (fun h => nI (qr_ref E H h)) := by
  obtain ⟨f, hf, f0, fn⟩ := qr_first E H
  have L : qr_Lv E e := ⟨q, hq, hE⟩
  have he := qr_Lt P L
  have hef : e ≠ f := fun z => qr_free f0 (z ▸ L)
  unfold wX_unsharedTable_40
  rw [nI_pred]
  refine qw_take (r := fun h => qr_ref E H h) f hf f0 fn (fun j => by have := qr_refle E H j; show qr_ref E H j < 2 ^ 31; omega) ?_
  have ec : upd (fun h => nI (qr_ref E H h)) f 1 = fun h => nI (qr_ref E H h + qs_b f h) :=
    qi_new (r := fun h => qr_ref E H h) (r' := fun h => qr_ref E H h + qs_b f h) f0 (fun _ => rfl)
  rw [ec]
  refine br_f qx_10 (qw_ct (r := fun h => qr_ref E H h + qs_b f h) he (by omega) hef (fun i hi => ⟨(P.2 e L i hi).1, (P.2 e L i hi).2.1⟩) ?_)
  have hr : ∀ s i, s ≠ f → i < 4 → qh_s H (f * 4) (fun i => H (e * 4 + i)) 4 (s * 4 + i) = H (s * 4 + i) := fun s i hs hi => qh_out (by omega)
  have hc : ∀ i, i < 4 → qh_s H (f * 4) (fun i => H (e * 4 + i)) 4 (f * 4 + i) = H (e * 4 + i) := fun i hi => qh_in hi
  have hu : upd (fun h => nI (qr_ref E H h + qs_b f h + qr_nT (qh_s H (f * 4) (fun i => H (e * 4 + i)) 4) f h)) (nI e).toNatClampNeg (nI (qr_ref E H (nI e).toNatClampNeg + qs_b f (nI e).toNatClampNeg + qr_nT (qh_s H (f * 4) (fun i => H (e * 4 + i)) 4) f (nI e).toNatClampNeg) - 1) = fun h => nI (qr_ref (qr_ue E q (f + 1)) (qh_s H (f * 4) (fun i => H (e * 4 + i)) 4) h) := by
    rw [nI_clamp (by omega)]
    exact qi_dec (r := fun h => qr_ref E H h + qs_b f h + qr_nT (qh_s H (f * 4) (fun i => H (e * 4 + i)) 4) f h) (r' := fun h => qr_ref (qr_ue E q (f + 1)) (qh_s H (f * 4) (fun i => H (e * 4 + i)) 4) h) rfl (fun h => (qt_tab1 hq (by omega) he f0 hr hE h1 h).symm)
  refine ⟨vp_in_nI he (by omega), vp_in_nI he (by omega), nm_r hu (qw_ut81 hq ?_)⟩
  obtain ⟨t1, t2, t3⟩ := qt_tab P hq (by omega) f0 hr (fun z => by omega) (fun e' z => by
    have : e' = e := by omega
    rw [this]
    exact hc)
  exact K _ _ f t1 (qr_ue_s _ _ _) t3 t2 (fun p hp => qr_ue_n hp)
theorem qw_ut {post : Int32 → SX → Prop} {l : Int32} {b x H : Nat → Int32} {E : Nat → Nat} {j : Nat} (P : qr_PI E H) (hj : j < 4) (K : qw_K post l b x H E (16 + j)) : wpX_unsharedTable post (l, b, fun p => nI (E p), x, H, fun h => nI (qr_ref E H h)) (nI j) := by
  have hq : 16 + j < 20 := by omega
  have he : (fun p => nI (E p)) (nI (16 + j)).toNatClampNeg = nI (E (16 + j)) := by rw [nI_clamp (by omega)]
  refine nm_r (nI_add 16 j) ⟨vp_in_nI hq (by omega), nm_r he (qw_nh (P.1 _) (fun z => br_t rfl (qw_ut40a P hq z K)) (fun e z => br_f qx_10 ?_))⟩
  have L : qr_Lv E e := ⟨_, hq, z⟩
  have hl := qr_Lt P L
  have hle := qr_nEle E e
  rw [z, nI_pred]
  refine ⟨vp_in_nI hl (by omega), ?_⟩
  rw [nI_clamp (by omega), show (fun h => nI (qr_ref E H h)) e = nI (qr_nE E e) from congrArg nI (qr_tref P L)]
  by_cases h1 : qr_nE E e = 1
  · refine br_t ?_ (K E H e P z h1 (fun v c _ _ => qv_Sr E H v c) (fun _ _ => rfl))
    rw [h1]
    rfl
  · refine br_f ?_ (qw_ut40b P hq z h1 K)
    intro y
    exact h1 ((nI_eq (b := 1) (by omega) (by omega)).mp y)
def qw_K2 (post : Int32 → SX → Prop) (l : Int32) (b x H : Nat → Int32) (E : Nat → Nat) (t g : Nat) : Prop := ∀ (H' : Nat → Int32) (d : Nat), qr_PI E H' → qr_T H' (t * 4 + g % 4) = d + 1 → qr_ref E H' d = 1 → (∀ v c, v < 5 → c < 16 → (v ≠ 4 ∨ c ≠ g) → qv_S E H E H' v c) → (qr_T H (t * 4 + g % 4) = 0 → ∀ i, i < 4 → H' (d * 4 + i) = b (g * 4 + i)) → (∀ e, qr_T H (t * 4 + g % 4) = e + 1 → ∀ i, i < 4 → H' (d * 4 + i) = H (e * 4 + i)) → post (nI d) (l, b, fun p => nI (E p), x, H', fun h => nI (qr_ref E H' h))
theorem qw_ud91 {post : Int32 → SX → Prop} {l : Int32} {b e x H c : Nat → Int32} {p f : Nat} (hp : p < 512) (k : post (nI f) (l, b, e, x, upd H p (nI (f + 1)), c)) : wX_unsharedData_91 post (nI p) (nI f) l b e x H c := by
  have he : upd H (nI p).toNatClampNeg (nI f + 1) = upd H p (nI (f + 1)) := by
    rw [nI_clamp (by omega), nI_1]
  exact ⟨vp_in_nI hp (by omega), nm_r he k⟩
theorem qw_ud47a {post : Int32 → SX → Prop} {l : Int32} {b x H : Nat → Int32} {E : Nat → Nat} {t g : Nat} {y : Int32} (P : qr_PI E H) (hg : g < 16) (hE : E (16 + g / 4) = t + 1) (h1 : qr_nE E t = 1) (hT : qr_T H (t * 4 + g % 4) = 0) (K : qw_K2 post l b x H E t g) : wX_unsharedData_47 post (nI g) (nI (t * 4 + g % 4)) y 0 l b (fun p => nI (E p)) x H (fun h => nI (qr_ref E H h)) := by
  obtain ⟨f, hf, f0, fn⟩ := qr_first E H
  have L : qr_Lv E t := ⟨_, by omega, hE⟩
  have ht := qr_Lt P L
  have htf : t ≠ f := fun z => qr_free f0 (z ▸ L)
  unfold wX_unsharedData_47
  refine qw_take (r := fun h => qr_ref E H h) f hf f0 fn (fun j => by have := qr_refle E H j; show qr_ref E H j < 2 ^ 31; omega) ?_
  have hp : upd (qh_s H (f * 4) (fun i => b (g * 4 + i)) 4) (t * 4 + g % 4) (nI (f + 1)) (t * 4 + g % 4) = nI (f + 1) := pk_us
  have hr : ∀ s i, s ≠ f → i < 4 → (s ≠ t ∨ i ≠ g % 4) → upd (qh_s H (f * 4) (fun i => b (g * 4 + i)) 4) (t * 4 + g % 4) (nI (f + 1)) (s * 4 + i) = H (s * 4 + i) := fun s i hs hi hn => (pk_un (by omega)).trans (qh_out (by omega))
  obtain ⟨d1, d2, d3, d4, d5⟩ := qt_dat P hg rfl hE h1 (by omega) f0 hp hr
  have ec : upd (fun h => nI (qr_ref E H h)) f 1 = fun h => nI (qr_ref E (upd (qh_s H (f * 4) (fun i => b (g * 4 + i)) 4) (t * 4 + g % 4) (nI (f + 1))) h) :=
    qi_new (r := fun h => qr_ref E H h) (r' := fun h => qr_ref E (upd (qh_s H (f * 4) (fun i => b (g * 4 + i)) 4) (t * 4 + g % 4) (nI (f + 1))) h) f0 (fun h => by
      have a := d2 h
      rw [hT, qs_b0 (a := 0) (b := h + 1) (by omega), Nat.add_zero] at a
      exact a)
  rw [ec]
  refine br_t rfl (qw_fromB hg (by omega) (qw_ud91 (by omega) ?_))
  refine K _ f d1 (qr_Tn hp (by omega)) d4 d3 (fun _ i hi => ?_) (fun e z => by omega)
  exact (pk_un (by omega)).trans (qh_in hi)
theorem qw_ud47b {post : Int32 → SX → Prop} {l : Int32} {b x H : Nat → Int32} {E : Nat → Nat} {t g e : Nat} (P : qr_PI E H) (hg : g < 16) (hE : E (16 + g / 4) = t + 1) (h1 : qr_nE E t = 1) (hT : qr_T H (t * 4 + g % 4) = e + 1) (K : qw_K2 post l b x H E t g) : wX_unsharedData_47 post (nI g) (nI (t * 4 + g % 4)) (nI (e + 1)) 1 l b (fun p => nI (E p)) x H (fun h => nI (qr_ref E H h)) := by
  obtain ⟨f, hf, f0, fn⟩ := qr_first E H
  have L : qr_Lv E t := ⟨_, by omega, hE⟩
  have ht := qr_Lt P L
  have htf : t ≠ f := fun z => qr_free f0 (z ▸ L)
  have he : e < 128 := by have := (P.2 t L (g % 4) (by omega)).2.1; omega
  have hef : e ≠ f := by
    intro z
    have := qr_named P L (by omega) hT
    rw [z] at this
    omega
  unfold wX_unsharedData_47
  rw [nI_pred]
  refine qw_take (r := fun h => qr_ref E H h) f hf f0 fn (fun j => by have := qr_refle E H j; show qr_ref E H j < 2 ^ 31; omega) ?_
  have hp : upd (qh_s H (f * 4) (fun i => H (e * 4 + i)) 4) (t * 4 + g % 4) (nI (f + 1)) (t * 4 + g % 4) = nI (f + 1) := pk_us
  have hr : ∀ s i, s ≠ f → i < 4 → (s ≠ t ∨ i ≠ g % 4) → upd (qh_s H (f * 4) (fun i => H (e * 4 + i)) 4) (t * 4 + g % 4) (nI (f + 1)) (s * 4 + i) = H (s * 4 + i) := fun s i hs hi hn => (pk_un (by omega)).trans (qh_out (by omega))
  obtain ⟨d1, d2, d3, d4, d5⟩ := qt_dat P hg rfl hE h1 (by omega) f0 hp hr
  have ec : upd (fun h => nI (qr_ref E H h)) f 1 = fun h => nI (qr_ref E H h + qs_b f h) :=
    qi_new (r := fun h => qr_ref E H h) (r' := fun h => qr_ref E H h + qs_b f h) f0 (fun _ => rfl)
  rw [ec]
  have hu : upd (fun h => nI (qr_ref E H h + qs_b f h)) (nI e).toNatClampNeg (nI (qr_ref E H (nI e).toNatClampNeg + qs_b f (nI e).toNatClampNeg) - 1) = fun h => nI (qr_ref E (upd (qh_s H (f * 4) (fun i => H (e * 4 + i)) 4) (t * 4 + g % 4) (nI (f + 1))) h) := by
    rw [nI_clamp (by omega)]
    exact qi_dec (r := fun h => qr_ref E H h + qs_b f h) (r' := fun h => qr_ref E (upd (qh_s H (f * 4) (fun i => H (e * 4 + i)) 4) (t * 4 + g % 4) (nI (f + 1))) h) rfl (fun h => by
      have a := d2 h
      rw [hT, qs_bs] at a
      exact a.symm)
  refine br_f qx_10 (qw_copy he (by omega) hef ⟨vp_in_nI he (by omega), vp_in_nI he (by omega), nm_r hu (qw_ud91 (by omega) ?_)⟩)
  refine K _ f d1 (qr_Tn hp (by omega)) d4 d3 (fun z => by omega) (fun e' z i hi => ?_)
  have ee : e' = e := by omega
  rw [ee]
  exact (pk_un (by omega)).trans (qh_in hi)
theorem qw_ud {post : Int32 → SX → Prop} {l : Int32} {b x H : Nat → Int32} {E : Nat → Nat} {t g : Nat} (P : qr_PI E H) (hg : g < 16) (hE : E (16 + g / 4) = t + 1) (h1 : qr_nE E t = 1) (K : qw_K2 post l b x H E t g) : wpX_unsharedData post (l, b, fun p => nI (E p), x, H, fun h => nI (qr_ref E H h)) (nI t) (nI g) := by
  have L : qr_Lv E t := ⟨_, by omega, hE⟩
  have ht := qr_Lt P L
  have R := P.2 t L (g % 4) (by omega)
  unfold wpX_unsharedData
  dsimp only
  rw [qx_r4 (by omega)]
  have he : H (nI (t * 4 + g % 4)).toNatClampNeg = nI (qr_T H (t * 4 + g % 4)) := by
    rw [nI_clamp (by omega)]
    exact R.1
  refine ⟨qx_40, nm_r (qx_ix t (g % 4)) ⟨vp_in_nI (by omega) (by omega), nm_r he (qw_nh R.2.1 (fun z => br_t rfl (qw_ud47a P hg hE h1 z K)) (fun e z => br_f qx_10 ?_))⟩⟩
  have hl : e < 128 := by omega
  have hle := qr_refle E H e
  rw [z, nI_pred]
  refine ⟨vp_in_nI hl (by omega), ?_⟩
  rw [nI_clamp (by omega)]
  by_cases h2 : qr_ref E H e = 1
  · refine br_t ?_ (K H e P z h2 (fun v c _ _ _ => qv_Sr E H v c) (fun y => by omega) (fun e' y i _ => ?_))
    · rw [h2]
      rfl
    · have ee : e' = e := by omega
      rw [ee]
  · refine br_f ?_ (qw_ud47b P hg hE h1 z K)
    intro y
    exact h2 ((nI_eq (b := 1) (by omega) (by omega)).mp y)
