theorem qw_sh {post : SX → Prop} {l : Nat} {b x H : Nat → Int32} {E : Nat → Nat} {f s : Nat} (hl : l ≤ 4) (P : qr_PI E H) (hf : f < 5) (hs : s < 5) (hn : f ≠ s) (h0 : ∀ j, j < 4 → E (s * 4 + j) = 0) (kp : ∀ E' : Nat → Nat, qr_PI E' H → (∀ j, j < l → E' (s * 4 + j) = E (f * 4 + j)) → (∀ p, (p < s * 4 ∨ s * 4 + l ≤ p) → E' p = E p) → post (nI l, b, fun p => nI (E' p), x, H, fun h => nI (qr_ref E' H h))) : wpX_shareTables post (nI l, b, fun p => nI (E p), x, H, fun h => nI (qr_ref E H h)) (nI f) (nI s) := by
  refine loop_0 (fun n i (u : (Nat → Int32) × (Nat → Int32)) => wX_shareTables_2 post (nI f) (nI s) (nI l) n (nI i) b u.1 x H u.2) (fun i u => ∃ E' : Nat → Nat, u = (fun p => nI (E' p), fun h => nI (qr_ref E' H h)) ∧ qr_PI E' H ∧ (∀ j, j < i → E' (s * 4 + j) = E (f * 4 + j)) ∧ (∀ p, (p < s * 4 ∨ s * 4 + i ≤ p) → E' p = E p)) l (fun p => nI (E p), fun h => nI (qr_ref E H h)) ⟨E, rfl, P, fun j hj => absurd hj (Nat.not_lt_zero j), fun _ _ => rfl⟩ (fun n u hu => ?_) (fun n i u hi hu k => ?_)
  · obtain ⟨E', rfl, P', e1, e2⟩ := hu
    exact br_t (nI_le (Nat.le_refl l) (by omega)) (kp E' P' e1 e2)
  · obtain ⟨E', rfl, P', e1, e2⟩ := hu
    have ef : E' (f * 4 + i) = E (f * 4 + i) := e2 _ (by omega)
    have es : E' (s * 4 + i) = 0 := (e2 _ (by omega)).trans (h0 i (by omega))
    have he : (fun p => nI (E' p)) (nI f * 4 + nI i).toNatClampNeg = nI (E (f * 4 + i)) := by
      rw [qx_cl (by omega)]
      exact congrArg nI ef
    have hu : upd (fun p => nI (E' p)) (nI s * 4 + nI i).toNatClampNeg (nI (E (f * 4 + i))) = fun p => nI (qr_ue E' (s * 4 + i) (E (f * 4 + i)) p) := by
      rw [qx_cl (by omega)]
      exact qi_ue E' (s * 4 + i) (E (f * 4 + i))
    refine br_f (nI_ge hi (by omega)) ⟨qx_in (by omega) (by omega), nm_r he ⟨qx_in (by omega) (by omega), nm_r hu (qw_nh (P.1 _) (fun z => br_t rfl (nm_r (nI_1 i) (k (_, _) ⟨E', ?_, P', ?_, ?_⟩))) (fun t z => br_f qx_10 ?_))⟩⟩
    · rw [z, qr_ue_id es]
      rfl
    · intro j hj
      by_cases e : j = i
      · rw [e, es, z]
      · exact e1 j (by omega)
    · intro p hp
      exact e2 p (by omega)
    · have L : qr_Lv E' t := ⟨_, by omega, ef.trans z⟩
      have ht := qr_Lt P' L
      obtain ⟨s1, s2⟩ := qt_shr (q := s * 4 + i) P' (by omega) es L
      rw [z, nI_pred]
      have hc : upd (fun h => nI (qr_ref E' H h)) (nI t).toNatClampNeg (nI (qr_ref E' H (nI t).toNatClampNeg) + 1) = fun h => nI (qr_ref (qr_ue E' (s * 4 + i) (t + 1)) H h) := by
        rw [nI_clamp (by omega)]
        exact qi_inc (r := fun h => qr_ref E' H h) (r' := fun h => qr_ref (qr_ue E' (s * 4 + i) (t + 1)) H h) rfl s2
      refine ⟨vp_in_nI ht (by omega), vp_in_nI ht (by omega), nm_r hc (nm_r (nI_1 i) (k (_, _) ⟨qr_ue E' (s * 4 + i) (t + 1), rfl, s1, ?_, ?_⟩))⟩
      · intro j hj
        by_cases e : j = i
        · rw [e, qr_ue_s, z]
        · rw [qr_ue_n (by omega)]
          exact e1 j (by omega)
      · intro p hp
        rw [qr_ue_n (by omega)]
        exact e2 p (by omega)
theorem qw_rl {post : SX → Prop} {l : Nat} {b x H : Nat → Int32} {E : Nat → Nat} {v : Nat} (hl : l ≤ 4) (P : qr_PI E H) (hv : v < 5) (kp : ∀ E' : Nat → Nat, qr_PI E' H → (∀ j, j < l → E' (v * 4 + j) = 0) → (∀ p, (p < v * 4 ∨ v * 4 + l ≤ p) → E' p = E p) → post (nI l, b, fun p => nI (E' p), x, H, fun h => nI (qr_ref E' H h))) : wpX_releaseTables post (nI l, b, fun p => nI (E p), x, H, fun h => nI (qr_ref E H h)) (nI v) := by
  refine loop_0 (fun n i (u : (Nat → Int32) × (Nat → Int32)) => wX_releaseTables_2 post (nI v) n (nI i) (nI l) b u.1 x H u.2) (fun i u => ∃ E' : Nat → Nat, u = (fun p => nI (E' p), fun h => nI (qr_ref E' H h)) ∧ qr_PI E' H ∧ (∀ j, j < i → E' (v * 4 + j) = 0) ∧ (∀ p, (p < v * 4 ∨ v * 4 + i ≤ p) → E' p = E p)) l (fun p => nI (E p), fun h => nI (qr_ref E H h)) ⟨E, rfl, P, fun j hj => absurd hj (Nat.not_lt_zero j), fun _ _ => rfl⟩ (fun n u hu => ?_) (fun n i u hi hu k => ?_)
  · obtain ⟨E', rfl, P', e1, e2⟩ := hu
    exact br_t (nI_le (Nat.le_refl l) (by omega)) (kp E' P' e1 e2)
  · obtain ⟨E', rfl, P', e1, e2⟩ := hu
    have he : (fun p => nI (E' p)) (nI (v * 4 + i)).toNatClampNeg = nI (E' (v * 4 + i)) := by
      rw [nI_clamp (by omega)]
    refine br_f (nI_ge hi (by omega)) (nm_r (qx_ix v i) ⟨vp_in_nI (by omega) (by omega), nm_r he (qw_nh (P'.1 _) (fun z => br_t rfl (nm_r (nI_1 i) (k (_, _) ⟨E', rfl, P', ?_, ?_⟩))) (fun t z => br_f qx_10 ⟨vp_in_nI (by omega) (by omega), ?_⟩))⟩)
    · intro j hj
      by_cases e : j = i
      · rw [e, z]
      · exact e1 j (by omega)
    · intro p hp
      exact e2 p (by omega)
    · have hu : upd (fun p => nI (E' p)) (nI (v * 4 + i)).toNatClampNeg 0 = fun p => nI (qr_ue E' (v * 4 + i) 0 p) := by
        rw [nI_clamp (by omega)]
        exact qi_ue E' (v * 4 + i) 0
      rw [z, nI_pred]
      refine nm_r hu (qw_rt P' (q := v * 4 + i) (by omega) z (nm_r (nI_1 i) (k (_, _) ⟨qr_ue E' (v * 4 + i) 0, rfl, qr_PIr _ P', ?_, ?_⟩)))
      · intro j hj
        by_cases e : j = i
        · rw [e, qr_ue_s]
        · rw [qr_ue_n (by omega)]
          exact e1 j (by omega)
      · intro p hp
        rw [qr_ue_n (by omega)]
        exact e2 p (by omega)
