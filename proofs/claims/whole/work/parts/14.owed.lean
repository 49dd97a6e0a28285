def i_Rel (k : Nat) (u : SX) (v : SY) : Prop := ∃ (l : Nat) (E : Nat → Nat) (b x H aA aD sE sA sD : Nat → Int32), u = (nI l, b, fun p => nI (E p), x, H, fun h => nI (qr_ref E H h)) ∧ v = (nI l, b, aA, aD, sE, sA, sD) ∧ qz_R l E H x aA aD sE sA sD
theorem i_up {k : Nat} {u : SX} {v : SY} (h : i_Rel k u v) : i_Rel (k + 3) u v := h
theorem i_vc0 (k0 : Int32) : wpX_init (fun u => wpY_init (fun v => i_Rel 1 u v) k0) k0 := by
  have e4 : upd (fun _ => (0 : Int32)) 4 (vp_nar .boolean 1) 4 = 1 := by rw [qx_vb1]; exact pk_us
  have e0 : ∀ s, s < 4 → upd (fun _ => (0 : Int32)) 4 (vp_nar .boolean 1) s = 0 := fun s hs => pk_un (by omega)
  have F : ∀ l : Nat, 1 ≤ l ∧ l ≤ 4 → i_Rel 1 (nI l, (fun _ => 0), (fun _ => 0), upd (fun _ => (0 : Int32)) 4 (vp_nar .boolean 1), (fun _ => 0), (fun _ => 0)) (nI l, (fun _ => 0), (fun _ => 0), (fun _ => 0), (fun _ => 0), (fun _ => 0), (fun _ => 0)) := by
    intro l hl
    refine ⟨l, (fun _ => 0), (fun _ => 0), upd (fun _ => (0 : Int32)) 4 (vp_nar .boolean 1), (fun _ => 0), (fun _ => 0), (fun _ => 0), (fun _ => 0), (fun _ => 0), (fun _ => 0), ?_, rfl, qz_init hl e4 e0⟩
    rw [← qz_cnt0]
    rfl
  by_cases h1 : 1 ≤ k0
  · by_cases h4 : k0 ≤ 4
    · have hn : ¬ k0 < 0 := Int32.not_lt.mpr (Int32.le_trans (by decide) h1)
      obtain ⟨l, hl, e⟩ := nI_of2 (M := 4) (n := 4) (by decide) hn h4
      rw [e] at h1 h4
      rw [e]
      have hl1 : 1 ≤ l := (nI_leI (a := 1) (by omega) (by omega)).mp h1
      exact br_t h1 (br_t h4 (nm_e (br_t h1 (br_t h4 (F l ⟨hl1, hl⟩)))))
    · exact br_t h1 (br_f h4 (nm_e (br_t h1 (br_f h4 (F 4 ⟨by omega, by omega⟩)))))
  · exact br_f h1 (nm_e (br_f h1 (br_t (by decide) (F 1 ⟨by omega, by omega⟩))))
theorem i_vc_guestWords {k : Nat} {u : SX} {v : SY} (I : i_Rel k u v) (hk : k + 3 ≤ 1537) : wpX_guestWords (fun r => wpY_guestWords (fun r' => r' = r ∧ i_Rel (k + 3) u v) v) u := by
  have J := i_up I
  obtain ⟨l, E, b, x, H, aA, aD, sE, sA, sD, rfl, rfl, R⟩ := I
  exact ⟨(qx_n16 l).trans (qx_m16 l).symm, J⟩
theorem i_vc_write {k : Nat} {u : SX} {v : SY} (I : i_Rel k u v) (hk : k + 3 ≤ 1537) (v1 : Int32) (v2 : Int32) : wpX_write (fun r u' => wpY_write (fun r' v' => r' = r ∧ i_Rel (k + 3) u' v') v v1 v2) u v1 v2 := by
  have J := i_up I
  obtain ⟨l, E, b, x, H, aA, aD, sE, sA, sD, rfl, rfl, R⟩ := I
  obtain ⟨hl, P, D, x4, hx, W⟩ := R
  unfold wpX_write
  dsimp only
  rcases qx_split v1 (n := l * 16) (by omega) with h | ⟨a, ha, rfl⟩
  · refine qw_gw0 h (br_t rfl ?_)
    unfold wpY_write
    dsimp only
    exact qy_ba1 h (br_f qx_10 ⟨rfl, J⟩)
  · rw [qx_r4 (by omega)]
    refine qw_gw1 hl.2 ha (br_f qx_10 ⟨qx_40, nm_r (qx_d4 (by omega)) ⟨qx_40, ?_⟩⟩)
    rw [qx_d4 (a := a / 4) (by omega)]
    refine qw_ut (j := a / 4 / 4) P (by omega) (fun E' H' t P' hE' h1 S1 hp => ?_)
    dsimp only
    refine qw_ud (g := a / 4) P' (by omega) hE' h1 (fun H2 d P2 hT hd S2 w0 w1 => ?_)
    dsimp only
    have L : qr_Lv E' t := ⟨_, by omega, hE'⟩
    have ht := qr_Lt P' L
    have hd128 : d < 128 := by have := (P2.2 t L (a / 4 % 4) (by omega)).2.1; omega
    have hu : upd H2 (nI d * 4 + nI (a % 4)).toNatClampNeg v2 = upd H2 (d * 4 + a % 4) v2 := by rw [qx_cl (by omega)]
    refine ⟨qx_40, qx_in (by omega) (by omega), nm_r hu ?_⟩
    obtain ⟨P3, r3, S3, de3⟩ := qt_sto (x := v2) (j := a % 4) P2 (c := a / 4) (by omega) rfl hE' h1 hT hd (by omega)
    have ec : (fun h => nI (qr_ref E' H2 h)) = fun h => nI (qr_ref E' (upd H2 (d * 4 + a % 4) v2) h) := by
      funext h
      rw [r3 h]
    rw [ec]
    have D' : qz_D l x E' := qz_D1 (q := 16 + a / 4 / 4) D ⟨by omega, by rw [show (16 + a / 4 / 4) / 4 = 4 from by omega]; exact x4⟩ hp
    have S : ∀ v c', v < 5 → c' < 16 → (v ≠ 4 ∨ c' ≠ a / 4) → qv_S E H E' (upd H2 (d * 4 + a % 4) v2) v c' := fun v c' hv hc' hn => qv_St (S1 v c' hv hc') (qv_St (S2 v c' hv hc' hn) (S3 v c' hv hc' hn))
    have eT : qr_T H' (t * 4 + a / 4 % 4) = qv_de E H 4 (a / 4) := by
      rw [← (S1 4 (a / 4) (by omega) (by omega)).1]
      exact (qv_det (v := 4) (c := a / 4) hE').symm
    cases W.1 (a / 4) (by omega) with
    | inl f0 =>
      refine qy_wr0 hl.2 ha f0.2 ⟨rfl, ⟨l, E', b, x, _, _, _, sE, sA, sD, rfl, rfl, hl, P3, D', x4, hx, ?_⟩⟩
      refine qz_wr (by omega) W S de3 pk_us (fun c' _ hn => pk_un hn) (fun c' _ hn i hi => qh_out (by omega)) (fun i hi => ?_)
      rw [w0 (eT.trans f0.1) i hi]
      exact (qh_in (W := fun i => b (a / 4 * 4 + i)) hi).symm
    | inr f1 =>
      obtain ⟨e, he, hf, hw⟩ := f1
      refine qy_wr1 hl.2 ha hf ⟨rfl, ⟨l, E', b, x, _, _, _, sE, sA, sD, rfl, rfl, hl, P3, D', x4, hx, ?_⟩⟩
      refine qz_wr (by omega) W S de3 hf (fun c' _ hn => rfl) (fun c' _ hn i hi => rfl) (fun i hi => ?_)
      rw [w1 e (eT.trans he) i hi, (S1 4 (a / 4) (by omega) (by omega)).2 e he i hi]
      exact hw i hi
theorem i_vc_read {k : Nat} {u : SX} {v : SY} (I : i_Rel k u v) (hk : k + 3 ≤ 1537) (v1 : Int32) : wpX_read (fun r => wpY_read (fun r' => r' = r ∧ i_Rel (k + 3) u v) v v1) u v1 := by
  have J := i_up I
  obtain ⟨l, E, b, x, H, aA, aD, sE, sA, sD, rfl, rfl, R⟩ := I
  obtain ⟨hl, P, D, x4, hx, W⟩ := R
  unfold wpX_read
  dsimp only
  rcases qx_split v1 (n := l * 16) (by omega) with h | ⟨a, ha, rfl⟩
  · refine qw_gw0 h (br_t rfl ?_)
    unfold wpY_read
    dsimp only
    exact qy_ba1 h (br_f qx_10 ⟨rfl, J⟩)
  · refine qw_gw1 hl.2 ha (br_f qx_10 (qw_wv (v := 4) P (by omega) (by omega) (fun z => ?_) (fun d z => ?_)))
    · refine qy_rd hl.2 ha (fun _ => ⟨rfl, J⟩) (fun n => ?_)
      cases qv_at W.1 (a := a) (by omega) with
      | inl f => exact absurd f.2 n
      | inr f => obtain ⟨e, he, _, _⟩ := f; omega
    · cases qv_at W.1 (a := a) (by omega) with
      | inl f => omega
      | inr f =>
        obtain ⟨e, he, hf, hw⟩ := f
        have ee : e = d := by omega
        rw [ee] at hw
        refine qy_rd hl.2 ha (fun n => ?_) (fun _ => ⟨hw.symm, J⟩)
        rw [hf] at n
        exact absurd n qx_10
theorem i_vc_discard {k : Nat} {u : SX} {v : SY} (I : i_Rel k u v) (hk : k + 3 ≤ 1537) (v1 : Int32) : wpX_discard (fun r u' => wpY_discard (fun r' v' => r' = r ∧ i_Rel (k + 3) u' v') v v1) u v1 := by
  have J := i_up I
  obtain ⟨l, E, b, x, H, aA, aD, sE, sA, sD, rfl, rfl, R⟩ := I
  obtain ⟨hl, P, D, x4, hx, W⟩ := R
  unfold wpX_discard
  dsimp only
  rcases qx_split v1 (n := l * 4) (by omega) with h | ⟨c, hc, rfl⟩
  · refine qw_gc0 h (br_t rfl ?_)
    unfold wpY_discard
    dsimp only
    exact qy_bc1 h (br_f qx_10 ⟨rfl, J⟩)
  · rw [qx_r4 (by omega), qx_d4 (by omega)]
    have eA : upd aA (nI c).toNatClampNeg (vp_nar .boolean 0) = upd aA c 0 := by rw [nI_clamp (by omega), qx_vb0]
    have eF : aA (nI c).toNatClampNeg = aA c := by rw [nI_clamp (by omega)]
    refine qw_gc1 hl.2 hc (br_f qx_10 (qw_de (v := 4) P (by omega) (by omega) (qw_nh (qv_dle P (by omega) (by omega)) (fun z => br_t rfl ?_) (fun e z => br_f qx_10 ⟨qx_40, ?_⟩))))
    · have f0 : aA c = 0 := by
        cases W.1 c (by omega) with
        | inl f => exact f.2
        | inr f => obtain ⟨e, he, _, _⟩ := f; omega
      unfold wpY_discard
      dsimp only
      refine qy_bc0 hl.2 hc (br_t rfl ⟨vp_in_nI (by omega) (by omega), nm_r (eF.trans f0) ⟨vp_in_nI (by omega) (by omega), nm_r (eA.trans (qz_updv f0)) ⟨qx_nb0, rfl, J⟩⟩⟩)
    · have f1 : aA c = 1 := by
        cases W.1 c (by omega) with
        | inl f => omega
        | inr f => obtain ⟨_, _, he, _⟩ := f; exact he
      have he128 : e < 128 := by have := qv_dle P (v := 4) (c := c) (by omega) (by omega); omega
      rw [z, nI_pred]
      refine qw_ut (j := c / 4) P (by omega) (fun E' H' t P' hE' h1 S1 hp => ?_)
      dsimp only
      have L : qr_Lv E' t := ⟨_, by omega, hE'⟩
      have ht := qr_Lt P' L
      have hu : upd H' (nI t * 4 + nI (c % 4)).toNatClampNeg 0 = upd H' (t * 4 + c % 4) 0 := by rw [qx_cl (by omega)]
      obtain ⟨P3, r3, S3, de3⟩ := qt_dis (c := c) P' (by omega) rfl hE' h1
      have eT : qr_T H' (t * 4 + c % 4) = e + 1 := by
        rw [← z, ← (S1 4 c (by omega) (by omega)).1]
        exact (qv_det (v := 4) (c := c) hE').symm
      have ec : upd (fun h => nI (qr_ref E' H' h)) (nI e).toNatClampNeg (nI (qr_ref E' H' (nI e).toNatClampNeg) - 1) = fun h => nI (qr_ref E' (upd H' (t * 4 + c % 4) 0) h) := by
        rw [nI_clamp (by omega)]
        exact qi_dec (r := fun h => qr_ref E' H' h) (r' := fun h => qr_ref E' (upd H' (t * 4 + c % 4) 0) h) rfl (fun h => by
          have a := r3 h
          rw [eT, qs_bs] at a
          exact a.symm)
      refine ⟨qx_40, qx_in (by omega) (by omega), nm_r hu ⟨vp_in_nI he128 (by omega), vp_in_nI he128 (by omega), nm_r ec ?_⟩⟩
      have D' : qz_D l x E' := qz_D1 (q := 16 + c / 4) D ⟨by omega, by rw [show (16 + c / 4) / 4 = 4 from by omega]; exact x4⟩ hp
      unfold wpY_discard
      dsimp only
      refine qy_bc0 hl.2 hc (br_t rfl ⟨vp_in_nI (by omega) (by omega), nm_r (eF.trans f1) ⟨vp_in_nI (by omega) (by omega), nm_r eA ⟨qx_nb1, rfl, ⟨l, E', b, x, _, _, _, sE, sA, sD, rfl, rfl, hl, P3, D', x4, hx, ?_⟩⟩⟩⟩)
      exact qz_cell (c := c) (by omega) W (fun v c' hv hc' hn => qv_St (S1 v c' hv hc') (S3 v c' hv hc' hn)) (fun c' _ hn => pk_un hn) (fun _ _ _ _ _ => rfl) (Or.inl ⟨de3, pk_us⟩)
theorem i_vc_writeBacking {k : Nat} {u : SX} {v : SY} (I : i_Rel k u v) (hk : k + 3 ≤ 1537) (v1 : Int32) (v2 : Int32) : wpX_writeBacking (fun r u' => wpY_writeBacking (fun r' v' => r' = r ∧ i_Rel (k + 3) u' v') v v1 v2) u v1 v2 := by
  have J := i_up I
  obtain ⟨l, E, b, x, H, aA, aD, sE, sA, sD, rfl, rfl, R⟩ := I
  unfold wpX_writeBacking
  dsimp only
  have hl := R.1
  rcases qx_split v1 (n := l * 16) (by omega) with h | ⟨a, ha, rfl⟩
  · refine qw_gw0 h (br_t rfl ?_)
    unfold wpY_writeBacking
    dsimp only
    exact qy_ba1 h (br_f qx_10 ⟨rfl, J⟩)
  · refine qw_gw1 hl.2 ha (br_f qx_10 ⟨vp_in_nI (by omega) (by omega), nm_e ?_⟩)
    unfold wpY_writeBacking
    dsimp only
    exact qy_ba0 hl.2 ha (br_t rfl ⟨vp_in_nI (by omega) (by omega), nm_e ⟨rfl, ⟨l, E, _, x, H, aA, aD, sE, sA, sD, rfl, rfl, R⟩⟩⟩)
theorem i_vc_readBacking {k : Nat} {u : SX} {v : SY} (I : i_Rel k u v) (hk : k + 3 ≤ 1537) (v1 : Int32) : wpX_readBacking (fun r => wpY_readBacking (fun r' => r' = r ∧ i_Rel (k + 3) u v) v v1) u v1 := by
  have J := i_up I
  obtain ⟨l, E, b, x, H, aA, aD, sE, sA, sD, rfl, rfl, R⟩ := I
  unfold wpX_readBacking
  dsimp only
  have hl := R.1
  rcases qx_split v1 (n := l * 16) (by omega) with h | ⟨a, ha, rfl⟩
  · refine qw_gw0 h (br_t rfl ?_)
    unfold wpY_readBacking
    dsimp only
    exact qy_ba1 h (br_f qx_10 ⟨rfl, J⟩)
  · refine qw_gw1 hl.2 ha (br_f qx_10 ⟨vp_in_nI (by omega) (by omega), ?_⟩)
    unfold wpY_readBacking
    dsimp only
    exact qy_ba0 hl.2 ha (br_t rfl ⟨vp_in_nI (by omega) (by omega), ⟨rfl, J⟩⟩)
theorem i_vc_isAllocated {k : Nat} {u : SX} {v : SY} (I : i_Rel k u v) (hk : k + 3 ≤ 1537) (v1 : Int32) : wpX_isAllocated (fun r => wpY_isAllocated (fun r' => r' = r ∧ i_Rel (k + 3) u v) v v1) u v1 := by
  have J := i_up I
  obtain ⟨l, E, b, x, H, aA, aD, sE, sA, sD, rfl, rfl, R⟩ := I
  obtain ⟨hl, P, D, x4, hx, W⟩ := R
  unfold wpX_isAllocated
  dsimp only
  rcases qx_split v1 (n := l * 4) (by omega) with h | ⟨c, hc, rfl⟩
  · refine qw_gc0 h (br_t rfl ?_)
    unfold wpY_isAllocated
    dsimp only
    exact qy_bc1 h (br_f qx_10 ⟨rfl, J⟩)
  · have Y : ∀ r : Int32, aA c = r → wpY_isAllocated (fun r' => r' = r ∧ i_Rel (k + 3) (nI l, b, fun p => nI (E p), x, H, fun h => nI (qr_ref E H h)) (nI l, b, aA, aD, sE, sA, sD)) (nI l, b, aA, aD, sE, sA, sD) (nI c) := by
      intro r e
      unfold wpY_isAllocated
      dsimp only
      rw [nI_clamp (by omega)]
      exact qy_bc0 hl.2 hc (br_t rfl ⟨vp_in_nI (by omega) (by omega), qx_nb (qv_f01 W.1 (by omega)), e, J⟩)
    refine qw_gc1 hl.2 hc (br_f qx_10 (qw_ai (v := 4) P (by omega) (by omega) (fun z => br_t rfl (Y 0 ?_)) (fun d z => br_f qx_10 (Y 1 ?_))))
    · cases W.1 c (by omega) with
      | inl f => exact f.2
      | inr f => obtain ⟨e, he, _, _⟩ := f; omega
    · cases W.1 c (by omega) with
      | inl f => omega
      | inr f => obtain ⟨_, _, he, _⟩ := f; exact he
theorem i_vc_allocatedCount {k : Nat} {u : SX} {v : SY} (I : i_Rel k u v) (hk : k + 3 ≤ 1537) : wpX_allocatedCount (fun r => wpY_allocatedCount (fun r' => r' = r ∧ i_Rel (k + 3) u v) v) u := by
  have J := i_up I
  obtain ⟨l, E, b, x, H, aA, aD, sE, sA, sD, rfl, rfl, R⟩ := I
  obtain ⟨hl, P, D, x4, hx, W⟩ := R
  exact qw_ac hl.2 P W.1 (qy_ac hl.2 ⟨rfl, J⟩)
theorem i_vc_snapshotCreate {k : Nat} {u : SX} {v : SY} (I : i_Rel k u v) (hk : k + 3 ≤ 1537) (v1 : Int32) : wpX_snapshotCreate (fun r u' => wpY_snapshotCreate (fun r' v' => r' = r ∧ i_Rel (k + 3) u' v') v v1) u v1 := by
  have J := i_up I
  obtain ⟨l, E, b, x, H, aA, aD, sE, sA, sD, rfl, rfl, R⟩ := I
  obtain ⟨hl, P, D, x4, hx, W⟩ := R
  unfold wpX_snapshotCreate
  dsimp only
  rcases qx_split v1 (n := 4) (by omega) with h | ⟨s, hs, rfl⟩
  · refine qw_sl0 h (br_t rfl ?_)
    unfold wpY_snapshotCreate
    dsimp only
    exact qx_oc (n := 4) h ⟨rfl, J⟩
  · refine qw_sl1 hs (br_f qx_10 ⟨vp_in_nI (by omega) (by omega), ?_⟩)
    rw [nI_clamp (by omega)]
    have hxs := hx s hs
    cases hxs.2 with
    | inr e1 =>
      refine br_f (by rw [hxs.1, e1]; exact qx_10) ?_
      unfold wpY_snapshotCreate
      dsimp only
      refine br_f (nI_pos (by omega)) (br_f (nI_ge (b := 4) hs (by omega)) ⟨vp_in_nI hs (by omega), br_f ?_ ⟨rfl, J⟩⟩)
      rw [nI_clamp (by omega), e1]
      exact qx_10
    | inl e0 =>
      have x0 : x s = 0 := hxs.1.trans e0
      have z : ∀ j, j < 4 → E (s * 4 + j) = 0 := fun j hj => qz_tail D (by omega) hj (Or.inr (by rw [x0]; decide))
      refine br_t x0 (qw_sh (f := 4) (s := s) hl.2 P (by omega) (by omega) (by omega) z (fun E' P' e1 e2 => ?_))
      dsimp only
      have eX : upd x s (vp_nar .boolean 1) = upd x s 1 := by rw [qx_vb1]
      refine ⟨vp_in_nI (by omega) (by omega), nm_r eX ?_⟩
      have h4 : ∀ j, j < 4 → E' (s * 4 + j) = E (4 * 4 + j) := qz_sh4 D (by omega) (by omega) z e1 e2
      have ho : ∀ p, (p < s * 4 ∨ s * 4 + 4 ≤ p) → E' p = E p := fun p hp => e2 p (by omega)
      refine qy_sc hs (fun c hc => qv_f01 W.1 hc) e0 ⟨rfl, ⟨l, E', b, _, H, aA, aD, _, _, _, rfl, rfl, hl, P', qz_Dcr (f := 4) (by omega) D h4 ho, ?_, qz_x (Or.inr rfl) hx, qz_create hs W h4 ho⟩⟩
      exact (pk_un (by omega)).trans x4
theorem i_vc_snapshotDelete {k : Nat} {u : SX} {v : SY} (I : i_Rel k u v) (hk : k + 3 ≤ 1537) (v1 : Int32) : wpX_snapshotDelete (fun r u' => wpY_snapshotDelete (fun r' v' => r' = r ∧ i_Rel (k + 3) u' v') v v1) u v1 := by
  have J := i_up I
  obtain ⟨l, E, b, x, H, aA, aD, sE, sA, sD, rfl, rfl, R⟩ := I
  obtain ⟨hl, P, D, x4, hx, W⟩ := R
  unfold wpX_snapshotDelete
  dsimp only
  have no : ∀ (hX : qx_o 4 v1 ∨ ∃ s, s < 4 ∧ v1 = nI s ∧ x s = 0) (hY : qx_o 4 v1 ∨ ∃ s, s < 4 ∧ v1 = nI s ∧ sE s = 0), wpX_snapshotDelete (fun r u' => wpY_snapshotDelete (fun r' v' => r' = r ∧ i_Rel (k + 3) u' v') (nI l, b, aA, aD, sE, sA, sD) v1) (nI l, b, fun p => nI (E p), x, H, fun h => nI (qr_ref E H h)) v1 := by
    intro hX hY
    unfold wpX_snapshotDelete
    dsimp only
    refine qw_hs0 hX (br_t rfl ?_)
    unfold wpY_snapshotDelete
    dsimp only
    exact qy_bs1 hY (br_f qx_10 ⟨rfl, J⟩)
  rcases qx_split v1 (n := 4) (by omega) with h | ⟨s, hs, rfl⟩
  · exact no (Or.inl h) (Or.inl h)
  · have hxs := hx s hs
    cases hxs.2 with
    | inl e0 => exact no (Or.inr ⟨s, hs, rfl, hxs.1.trans e0⟩) (Or.inr ⟨s, hs, rfl, e0⟩)
    | inr e1 =>
      refine qw_hs1 hs (hxs.1.trans e1) (br_f qx_10 (qw_rl (v := s) hl.2 P (by omega) (fun E' P' e2 e3 => ?_)))
      dsimp only
      have eX : upd x (nI s).toNatClampNeg (vp_nar .boolean 0) = upd x s 0 := by rw [nI_clamp (by omega), qx_vb0]
      have eS : upd sE (nI s).toNatClampNeg (vp_nar .boolean 0) = upd sE s 0 := by rw [nI_clamp (by omega), qx_vb0]
      refine ⟨vp_in_nI (by omega) (by omega), nm_r eX ?_⟩
      have h4 : ∀ j, j < 4 → E' (s * 4 + j) = 0 := qz_rl4 D (by omega) e2 e3
      have ho : ∀ p, (p < s * 4 ∨ s * 4 + 4 ≤ p) → E' p = E p := fun p hp => e3 p (by omega)
      unfold wpY_snapshotDelete
      dsimp only
      refine qy_bs0 hs e1 (br_t rfl ⟨vp_in_nI hs (by omega), nm_r eS ⟨rfl, ⟨l, E', b, _, H, aA, aD, _, sA, sD, rfl, rfl, hl, P', qz_Dz (s := s) D (fun s' hn => pk_un hn) h4 ho, ?_, qz_x (Or.inl rfl) hx, qz_delete hs W ho⟩⟩⟩)
      exact (pk_un (by omega)).trans x4
theorem i_vc_snapshotApply {k : Nat} {u : SX} {v : SY} (I : i_Rel k u v) (hk : k + 3 ≤ 1537) (v1 : Int32) : wpX_snapshotApply (fun r u' => wpY_snapshotApply (fun r' v' => r' = r ∧ i_Rel (k + 3) u' v') v v1) u v1 := by
  have J := i_up I
  obtain ⟨l, E, b, x, H, aA, aD, sE, sA, sD, rfl, rfl, R⟩ := I
  obtain ⟨hl, P, D, x4, hx, W⟩ := R
  have no : ∀ (hX : qx_o 4 v1 ∨ ∃ s, s < 4 ∧ v1 = nI s ∧ x s = 0) (hY : qx_o 4 v1 ∨ ∃ s, s < 4 ∧ v1 = nI s ∧ sE s = 0), wpX_snapshotApply (fun r u' => wpY_snapshotApply (fun r' v' => r' = r ∧ i_Rel (k + 3) u' v') (nI l, b, aA, aD, sE, sA, sD) v1) (nI l, b, fun p => nI (E p), x, H, fun h => nI (qr_ref E H h)) v1 := by
    intro hX hY
    unfold wpX_snapshotApply
    dsimp only
    refine qw_hs0 hX (br_t rfl ?_)
    unfold wpY_snapshotApply
    dsimp only
    exact qy_bs1 hY (br_f qx_10 ⟨rfl, J⟩)
  rcases qx_split v1 (n := 4) (by omega) with h | ⟨s, hs, rfl⟩
  · exact no (Or.inl h) (Or.inl h)
  · have hxs := hx s hs
    cases hxs.2 with
    | inl e0 => exact no (Or.inr ⟨s, hs, rfl, hxs.1.trans e0⟩) (Or.inr ⟨s, hs, rfl, e0⟩)
    | inr e1 =>
      unfold wpX_snapshotApply
      dsimp only
      refine qw_hs1 hs (hxs.1.trans e1) (br_f qx_10 (qw_rl (v := 4) hl.2 P (by omega) (fun E1 P1 a1 a2 => ?_)))
      dsimp only
      have z4 : ∀ j, j < 4 → E1 (4 * 4 + j) = 0 := qz_rl4 D (by omega) a1 a2
      have z5 : ∀ p, (p < 4 * 4 ∨ 4 * 4 + 4 ≤ p) → E1 p = E p := fun p hp => a2 p (by omega)
      have D1 : qz_D l x E1 := qz_Dz (s := 4) D (fun _ _ => rfl) z4 z5
      refine qw_sh (f := s) (s := 4) hl.2 P1 (by omega) (by omega) (by omega) z4 (fun E' P' b1 b2 => ?_)
      dsimp only
      have h4 : ∀ j, j < 4 → E' (4 * 4 + j) = E1 (s * 4 + j) := qz_sh4 D1 (by omega) (by omega) z4 b1 b2
      have ho : ∀ p, (p < 4 * 4 ∨ 4 * 4 + 4 ≤ p) → E' p = E1 p := fun p hp => b2 p (by omega)
      have D2 := qz_Dcr (s := 4) (f := s) (by omega) D1 h4 ho
      rw [qz_upd1 x4] at D2
      refine qy_sa hs e1 (fun c hc => qv_f01 (W.2 s hs e1) hc) ⟨rfl, ⟨l, E', b, x, H, _, _, sE, sA, sD, rfl, rfl, hl, P', D2, x4, hx, qz_apply hs e1 W (fun j hj => ?_) (fun p hp => ?_)⟩⟩
      · rw [h4 j hj]
        exact z5 _ (by omega)
      · rw [ho p (by omega)]
        exact z5 p (by omega)
theorem i_vc_snapshotExists {k : Nat} {u : SX} {v : SY} (I : i_Rel k u v) (hk : k + 3 ≤ 1537) (v1 : Int32) : wpX_snapshotExists (fun r => wpY_snapshotExists (fun r' => r' = r ∧ i_Rel (k + 3) u v) v v1) u v1 := by
  have J := i_up I
  obtain ⟨l, E, b, x, H, aA, aD, sE, sA, sD, rfl, rfl, R⟩ := I
  obtain ⟨hl, P, D, x4, hx, W⟩ := R
  unfold wpX_snapshotExists
  dsimp only
  rcases qx_split v1 (n := 4) (by omega) with h | ⟨s, hs, rfl⟩
  · refine qw_hs0 (Or.inl h) ⟨qx_nb0, ?_⟩
    unfold wpY_snapshotExists
    dsimp only
    exact qx_ol (n := 4) h ⟨rfl, J⟩
  · have hxs := hx s hs
    have Y : ∀ r : Int32, sE s = r → wpY_snapshotExists (fun r' => r' = r ∧ i_Rel (k + 3) (nI l, b, fun p => nI (E p), x, H, fun h => nI (qr_ref E H h)) (nI l, b, aA, aD, sE, sA, sD)) (nI l, b, aA, aD, sE, sA, sD) (nI s) := by
      intro r e
      unfold wpY_snapshotExists
      dsimp only
      rw [nI_clamp (by omega)]
      exact br_f (nI_pos (by omega)) (br_t (nI_lt (b := 4) hs (by omega)) ⟨vp_in_nI hs (by omega), qx_nb hxs.2, e, J⟩)
    cases hxs.2 with
    | inl e0 => exact qw_hs0 (Or.inr ⟨s, hs, rfl, hxs.1.trans e0⟩) ⟨qx_nb0, Y 0 e0⟩
    | inr e1 => exact qw_hs1 hs (hxs.1.trans e1) ⟨qx_nb1, Y 1 e1⟩
theorem i_vc_readSnapshot {k : Nat} {u : SX} {v : SY} (I : i_Rel k u v) (hk : k + 3 ≤ 1537) (v1 : Int32) (v2 : Int32) : wpX_readSnapshot (fun r => wpY_readSnapshot (fun r' => r' = r ∧ i_Rel (k + 3) u v) v v1 v2) u v1 v2 := by
  have J := i_up I
  obtain ⟨l, E, b, x, H, aA, aD, sE, sA, sD, rfl, rfl, R⟩ := I
  obtain ⟨hl, P, D, x4, hx, W⟩ := R
  unfold wpX_readSnapshot
  dsimp only
  rcases qx_split v1 (n := 4) (by omega) with h | ⟨s, hs, rfl⟩
  · refine qw_hs0 (Or.inl h) (br_t rfl ?_)
    unfold wpY_readSnapshot
    dsimp only
    exact qy_bs1 (Or.inl h) (br_f qx_10 ⟨rfl, J⟩)
  · have hxs := hx s hs
    cases hxs.2 with
    | inl e0 =>
      refine qw_hs0 (Or.inr ⟨s, hs, rfl, hxs.1.trans e0⟩) (br_t rfl ?_)
      unfold wpY_readSnapshot
      dsimp only
      exact qy_bs1 (Or.inr ⟨s, hs, rfl, e0⟩) (br_f qx_10 ⟨rfl, J⟩)
    | inr e1 =>
      refine qw_hs1 hs (hxs.1.trans e1) (br_f qx_10 ?_)
      rcases qx_split v2 (n := l * 16) (by omega) with h | ⟨a, ha, rfl⟩
      · refine qw_gw0 h (br_t rfl ?_)
        unfold wpY_readSnapshot
        dsimp only
        exact qy_bs0 hs e1 (br_t rfl (qy_ba1 h (br_f qx_10 ⟨rfl, J⟩)))
      · have V := W.2 s hs e1
        have Y : ∀ r : Int32, (sA (s * 16 + a / 4) = 0 → b a = r) → (¬ sA (s * 16 + a / 4) = 0 → sD (s * 64 + a) = r) → wpY_readSnapshot (fun r' => r' = r ∧ i_Rel (k + 3) (nI l, b, fun p => nI (E p), x, H, fun h => nI (qr_ref E H h)) (nI l, b, aA, aD, sE, sA, sD)) (nI l, b, aA, aD, sE, sA, sD) (nI s) (nI a) := by
          intro r y0 y1
          unfold wpY_readSnapshot
          dsimp only
          rw [qx_d4 (by omega), qx_ix16, qx_ix64, nI_clamp (n := s * 16 + a / 4) (by omega), nI_clamp (n := s * 64 + a) (by omega), nI_clamp (n := a) (by omega)]
          exact qy_bs0 hs e1 (br_t rfl (qy_ba0 hl.2 ha (br_t rfl ⟨qx_40, vp_in_nI (by omega) (by omega), br_c (fun z => ⟨vp_in_nI (by omega) (by omega), y0 z, J⟩) (fun z => ⟨vp_in_nI (by omega) (by omega), y1 z, J⟩)⟩)))
        refine qw_gw1 hl.2 ha (br_f qx_10 (qw_wv (v := s) P (by omega) (by omega) (fun z => Y _ (fun _ => rfl) (fun n => ?_)) (fun d z => Y _ (fun n => ?_) (fun _ => ?_))))
        · cases qv_at V (a := a) (by omega) with
          | inl f => exact absurd f.2 n
          | inr f => obtain ⟨e, he, _, _⟩ := f; omega
        · cases qv_at V (a := a) (by omega) with
          | inl f => omega
          | inr f =>
            obtain ⟨e, _, hf, _⟩ := f
            have hf' : sA (s * 16 + a / 4) = 1 := hf
            rw [hf'] at n
            exact absurd n qx_10
        · cases qv_at V (a := a) (by omega) with
          | inl f => omega
          | inr f =>
            obtain ⟨e, he, _, hw⟩ := f
            have ee : e = d := by omega
            rw [ee] at hw
            exact hw.symm
theorem i_vc_isSnapshotAllocated {k : Nat} {u : SX} {v : SY} (I : i_Rel k u v) (hk : k + 3 ≤ 1537) (v1 : Int32) (v2 : Int32) : wpX_isSnapshotAllocated (fun r => wpY_isSnapshotAllocated (fun r' => r' = r ∧ i_Rel (k + 3) u v) v v1 v2) u v1 v2 := by
  have J := i_up I
  obtain ⟨l, E, b, x, H, aA, aD, sE, sA, sD, rfl, rfl, R⟩ := I
  obtain ⟨hl, P, D, x4, hx, W⟩ := R
  unfold wpX_isSnapshotAllocated
  dsimp only
  rcases qx_split v1 (n := 4) (by omega) with h | ⟨s, hs, rfl⟩
  · refine qw_hs0 (Or.inl h) (br_t rfl ?_)
    unfold wpY_isSnapshotAllocated
    dsimp only
    exact qy_bs1 (Or.inl h) (br_f qx_10 ⟨rfl, J⟩)
  · have hxs := hx s hs
    cases hxs.2 with
    | inl e0 =>
      refine qw_hs0 (Or.inr ⟨s, hs, rfl, hxs.1.trans e0⟩) (br_t rfl ?_)
      unfold wpY_isSnapshotAllocated
      dsimp only
      exact qy_bs1 (Or.inr ⟨s, hs, rfl, e0⟩) (br_f qx_10 ⟨rfl, J⟩)
    | inr e1 =>
      refine qw_hs1 hs (hxs.1.trans e1) (br_f qx_10 ?_)
      rcases qx_split v2 (n := l * 4) (by omega) with h | ⟨c, hc, rfl⟩
      · refine qw_gc0 h (br_t rfl ?_)
        unfold wpY_isSnapshotAllocated
        dsimp only
        exact qy_bs0 hs e1 (br_t rfl (qy_bc1 h (br_f qx_10 ⟨rfl, J⟩)))
      · have V := W.2 s hs e1
        have Y : ∀ r : Int32, sA (s * 16 + c) = r → wpY_isSnapshotAllocated (fun r' => r' = r ∧ i_Rel (k + 3) (nI l, b, fun p => nI (E p), x, H, fun h => nI (qr_ref E H h)) (nI l, b, aA, aD, sE, sA, sD)) (nI l, b, aA, aD, sE, sA, sD) (nI s) (nI c) := by
          intro r e
          unfold wpY_isSnapshotAllocated
          dsimp only
          rw [qx_ix16, nI_clamp (by omega)]
          exact qy_bs0 hs e1 (br_t rfl (qy_bc0 hl.2 hc (br_t rfl ⟨vp_in_nI (by omega) (by omega), qx_nb (qv_f01 V (c := c) (by omega)), e, J⟩)))
        refine qw_gc1 hl.2 hc (br_f qx_10 (qw_ai (v := s) P (by omega) (by omega) (fun z => br_t rfl (Y 0 ?_)) (fun d z => br_f qx_10 (Y 1 ?_))))
        · cases V c (by omega) with
          | inl f => exact f.2
          | inr f => obtain ⟨e, he, _, _⟩ := f; omega
        · cases V c (by omega) with
          | inl f => omega
          | inr f => obtain ⟨_, _, he, _⟩ := f; exact he
theorem i_vc_commit {k : Nat} {u : SX} {v : SY} (I : i_Rel k u v) (hk : k + 3 ≤ 1537) : wpX_commit (fun r u' => wpY_commit (fun r' v' => r' = r ∧ i_Rel (k + 3) u' v') v) u := by
  have J := i_up I
  obtain ⟨l, E, b, x, H, aA, aD, sE, sA, sD, rfl, rfl, R⟩ := I
  obtain ⟨hl, P, D, x4, hx, W⟩ := R
  refine qw_cm hl.2 P W.1 (qw_rl (v := 4) hl.2 P (by omega) (fun E' P' a1 a2 => ?_))
  have z4 : ∀ j, j < 4 → E' (4 * 4 + j) = 0 := qz_rl4 D (by omega) a1 a2
  have z5 : ∀ p, (p < 4 * 4 ∨ 4 * 4 + 4 ≤ p) → E' p = E p := fun p hp => a2 p (by omega)
  exact qy_cm hl.2 ⟨rfl, ⟨l, E', _, x, H, _, aD, sE, sA, sD, rfl, rfl, hl, P', qz_Dz (s := 4) D (fun _ _ => rfl) z4 z5, x4, hx, qz_commit W z4 (fun p hp => z5 p (by omega))⟩⟩
theorem i_vc_check {k : Nat} {u : SX} {v : SY} (I : i_Rel k u v) (hk : k + 3 ≤ 1537) : wpX_check (fun r => wpY_check (fun r' => r' = r ∧ i_Rel (k + 3) u v) v) u := by
  have J := i_up I
  obtain ⟨l, E, b, x, H, aA, aD, sE, sA, sD, rfl, rfl, R⟩ := I
  obtain ⟨hl, P, D, x4, hx, W⟩ := R
  exact qw_ck hl.2 D P ⟨rfl, J⟩
