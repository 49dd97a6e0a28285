theorem qw_take {post : Int32 → SX → Prop} {l : Int32} {b e x H : Nat → Int32} {r : Nat → Nat} (k : Nat) (hk : k < 127) (h0 : r k = 0) (hn : ∀ j, j < k → r j ≠ 0) (hr : ∀ j, r j < 2 ^ 31) (kp : post (nI k) (l, b, e, x, H, upd (fun h => nI (r h)) k 1)) : wpX_takeHostCluster post (l, b, e, x, H, fun h => nI (r h)) := by
  have w : ∀ d j, j + d = k → wX_takeHostCluster_2 post l b e x H (fun h => nI (r h)) (d + 1) (nI j) := by
    intro d
    induction d with
    | zero =>
      intro j hj
      have hj' : j = k := by omega
      rw [hj']
      refine br_f (nI_ge (b := 127) hk (by omega)) ⟨vp_in_nI (by omega) (by omega), br_t ?_ ⟨vp_in_nI (by omega) (by omega), nm_e ?_⟩⟩
      · rw [nI_clamp (by omega)]
        show nI (r k) = 0
        rw [h0]
        rfl
      · rw [nI_clamp (by omega)]
        exact kp
    | succ d ih =>
      intro j hj
      refine br_f (nI_ge (b := 127) (a := j) (by omega) (by omega)) ⟨vp_in_nI (by omega) (by omega), br_f ?_ (nm_r (nI_1 j) (ih (j + 1) (by omega)))⟩
      rw [nI_clamp (by omega)]
      show ¬ nI (r j) = 0
      have a := hn j (by omega)
      exact nI_ne0 (by omega) (hr j)
  exact ⟨k + 1, w k 0 (by omega)⟩
theorem qw_clear {post : SX → Prop} {l : Int32} {b e x H c : Nat → Int32} {t : Nat} (ht : t < 128) (h : post (l, b, e, x, qh_s H (t * 4) (fun _ => 0) 4, c)) : wpX_clearTable post (l, b, e, x, H, c) (nI t) := by
  refine loop_0 (fun n i (s : Nat → Int32) => wX_clearTable_2 post (nI t) l n (nI i) b e x s c) (fun i s => s = qh_s H (t * 4) (fun _ => 0) i) 4 H (qh_0 _ _ _).symm (fun n s hs => ?_) (fun n i s hi hs k => ?_)
  · rw [hs]
    exact br_t (nI_le (a := 4) (by omega) (by omega)) h
  · have he : upd s (nI t * 4 + nI i).toNatClampNeg 0 = qh_s H (t * 4) (fun _ => 0) (i + 1) := by
      rw [qx_cl (by omega), hs]
      exact qh_step rfl
    exact br_f (nI_ge (b := 4) hi (by omega)) ⟨qx_in (by omega) (by omega), nm_r he (nm_r (nI_1 i) (k _ rfl))⟩
theorem qw_copy {post : SX → Prop} {l : Int32} {b e x H c : Nat → Int32} {f t : Nat} (hf : f < 128) (ht : t < 128) (hn : f ≠ t) (h : post (l, b, e, x, qh_s H (t * 4) (fun i => H (f * 4 + i)) 4, c)) : wpX_copyHostCluster post (l, b, e, x, H, c) (nI f) (nI t) := by
  refine loop_0 (fun n i (s : Nat → Int32) => wX_copyHostCluster_2 post (nI f) (nI t) l n (nI i) b e x s c) (fun i s => s = qh_s H (t * 4) (fun i => H (f * 4 + i)) i) 4 H (qh_0 _ _ _).symm (fun n s hs => ?_) (fun n i s hi hs k => ?_)
  · rw [hs]
    exact br_t (nI_le (a := 4) (by omega) (by omega)) h
  · have he : upd s (nI t * 4 + nI i).toNatClampNeg (s (nI f * 4 + nI i).toNatClampNeg) = qh_s H (t * 4) (fun i => H (f * 4 + i)) (i + 1) := by
      rw [qx_cl (by omega), qx_cl (by omega), hs]
      exact qh_step (qh_out (by omega))
    exact br_f (nI_ge (b := 4) hi (by omega)) ⟨qx_in (by omega) (by omega), qx_in (by omega) (by omega), nm_r he (nm_r (nI_1 i) (k _ rfl))⟩
theorem qw_fromB {post : SX → Prop} {l : Int32} {b e x H c : Nat → Int32} {g t : Nat} (hg : g < 16) (ht : t < 128) (h : post (l, b, e, x, qh_s H (t * 4) (fun i => b (g * 4 + i)) 4, c)) : wpX_copyFromBacking post (l, b, e, x, H, c) (nI g) (nI t) := by
  refine loop_0 (fun n i (s : Nat → Int32) => wX_copyFromBacking_2 post (nI g) (nI t) l n (nI i) b e x s c) (fun i s => s = qh_s H (t * 4) (fun i => b (g * 4 + i)) i) 4 H (qh_0 _ _ _).symm (fun n s hs => ?_) (fun n i s hi hs k => ?_)
  · rw [hs]
    exact br_t (nI_le (a := 4) (by omega) (by omega)) h
  · have he : upd s (nI t * 4 + nI i).toNatClampNeg (b (nI g * 4 + nI i).toNatClampNeg) = qh_s H (t * 4) (fun i => b (g * 4 + i)) (i + 1) := by
      rw [qx_cl (by omega), qx_cl (by omega), hs]
      exact qh_step rfl
    exact br_f (nI_ge (b := 4) hi (by omega)) ⟨qx_in (by omega) (by omega), qx_in (by omega) (by omega), nm_r he (nm_r (nI_1 i) (k _ rfl))⟩
theorem qw_toB {post : SX → Prop} {l : Int32} {b e x H c : Nat → Int32} {g t : Nat} (hg : g < 16) (ht : t < 128) (h : post (l, qh_s b (g * 4) (fun i => H (t * 4 + i)) 4, e, x, H, c)) : wpX_copyToBacking post (l, b, e, x, H, c) (nI t) (nI g) := by
  refine loop_0 (fun n i (s : Nat → Int32) => wX_copyToBacking_2 post (nI t) (nI g) l n (nI i) s e x H c) (fun i s => s = qh_s b (g * 4) (fun i => H (t * 4 + i)) i) 4 b (qh_0 _ _ _).symm (fun n s hs => ?_) (fun n i s hi hs k => ?_)
  · rw [hs]
    exact br_t (nI_le (a := 4) (by omega) (by omega)) h
  · have he : upd s (nI g * 4 + nI i).toNatClampNeg (H (nI t * 4 + nI i).toNatClampNeg) = qh_s b (g * 4) (fun i => H (t * 4 + i)) (i + 1) := by
      rw [qx_cl (by omega), qx_cl (by omega), hs]
      exact qh_step rfl
    exact br_f (nI_ge (b := 4) hi (by omega)) ⟨qx_in (by omega) (by omega), qx_in (by omega) (by omega), nm_r he (nm_r (nI_1 i) (k _ rfl))⟩
/-- the counts of what a table names, once more -/
theorem qw_ct8 {post : SX → Prop} {l : Int32} {b e x H : Nat → Int32} {r : Nat → Nat} {t : Nat} (ht : t < 128) (hrow : ∀ i, i < 4 → H (t * 4 + i) = nI (qr_T H (t * 4 + i)) ∧ qr_T H (t * 4 + i) ≤ 128) (h : post (l, b, e, x, H, fun h => nI (r h + qr_nT H t h))) : ∃ n, wX_copyTable_8 post (nI t) l n 0 b e x H (fun h => nI (r h)) := by
  refine loop_0 (fun n i (s : Nat → Int32) => wX_copyTable_8 post (nI t) l n (nI i) b e x H s) (fun i s => s = fun h => nI (r h + qr_p H t h i)) 4 (fun h => nI (r h)) rfl (fun n s hs => ?_) (fun n i s hi hs k => ?_)
  · rw [hs]
    exact br_t (nI_le (a := 4) (by omega) (by omega)) h
  · have hR := hrow i hi
    have he : H (nI t * 4 + nI i).toNatClampNeg = nI (qr_T H (t * 4 + i)) := by
      rw [qx_cl (by omega)]
      exact hR.1
    refine br_f (nI_ge (b := 4) hi (by omega)) ⟨qx_in (by omega) (by omega), nm_r he (qw_nh hR.2 (fun z => br_t rfl (nm_r (nI_1 i) (k _ ?_))) (fun w z => br_f qx_10 ?_))⟩
    · rw [hs]
      exact qi_pinc0 z
    · have hw : w < 128 := by omega
      rw [z, nI_pred]
      have hu : upd s (nI w).toNatClampNeg (s (nI w).toNatClampNeg + 1) = fun h => nI (r h + qr_p H t h (i + 1)) := by
        rw [nI_clamp (by omega), hs]
        exact qi_pinc z rfl
      exact ⟨vp_in_nI hw (by omega), vp_in_nI hw (by omega), nm_r hu (nm_r (nI_1 i) (k _ rfl))⟩
theorem qw_ct {post : SX → Prop} {l : Int32} {b e x H : Nat → Int32} {r : Nat → Nat} {f t : Nat} (hf : f < 128) (ht : t < 128) (hn : f ≠ t) (hrow : ∀ i, i < 4 → H (f * 4 + i) = nI (qr_T H (f * 4 + i)) ∧ qr_T H (f * 4 + i) ≤ 128) (h : post (l, b, e, x, qh_s H (t * 4) (fun i => H (f * 4 + i)) 4, fun h => nI (r h + qr_nT (qh_s H (t * 4) (fun i => H (f * 4 + i)) 4) t h))) : wpX_copyTable post (l, b, e, x, H, fun h => nI (r h)) (nI f) (nI t) := by
  unfold wpX_copyTable
  dsimp only
  refine qw_copy hf ht hn ?_
  dsimp only
  refine qw_ct8 ht (fun i hi => ?_) h
  have e : qh_s H (t * 4) (fun i => H (f * 4 + i)) 4 (t * 4 + i) = H (f * 4 + i) := qh_in hi
  have e2 : qr_T (qh_s H (t * 4) (fun i => H (f * 4 + i)) 4) (t * 4 + i) = qr_T H (f * 4 + i) := by unfold qr_T; rw [e]
  rw [e2, e]
  exact hrow i hi
theorem qw_rt22 {post : SX → Prop} {l : Int32} {b e x H : Nat → Int32} {r : Nat → Nat} {t : Nat} (ht : t < 128) (hrow : ∀ i, i < 4 → H (t * 4 + i) = nI (qr_T H (t * 4 + i)) ∧ qr_T H (t * 4 + i) ≤ 128) (hr : ∀ h, qr_nT H t h ≤ r h) (h : post (l, b, e, x, H, fun h => nI (r h - qr_nT H t h))) : ∃ n, wX_releaseTable_22 post (nI t) l n 0 b e x H (fun h => nI (r h)) := by
  refine loop_0 (fun n i (s : Nat → Int32) => wX_releaseTable_22 post (nI t) l n (nI i) b e x H s) (fun i s => s = fun h => nI (r h - qr_p H t h i)) 4 (fun h => nI (r h)) rfl (fun n s hs => ?_) (fun n i s hi hs k => ?_)
  · rw [hs]
    exact br_t (nI_le (a := 4) (by omega) (by omega)) h
  · have hR := hrow i hi
    have he : H (nI t * 4 + nI i).toNatClampNeg = nI (qr_T H (t * 4 + i)) := by
      rw [qx_cl (by omega)]
      exact hR.1
    refine br_f (nI_ge (b := 4) hi (by omega)) ⟨qx_in (by omega) (by omega), nm_r he (qw_nh hR.2 (fun z => br_t rfl (nm_r (nI_1 i) (k _ ?_))) (fun w z => br_f qx_10 ?_))⟩
    · rw [hs]
      exact qi_pdec0 z
    · have hw : w < 128 := by omega
      rw [z, nI_pred]
      have hu : upd s (nI w).toNatClampNeg (s (nI w).toNatClampNeg - 1) = fun h => nI (r h - qr_p H t h (i + 1)) := by
        rw [nI_clamp (by omega), hs]
        exact qi_pdec hi hr z rfl
      exact ⟨vp_in_nI hw (by omega), vp_in_nI hw (by omega), nm_r hu (nm_r (nI_1 i) (k _ rfl))⟩
/-- an L1 entry that names table t has gone: its count, and with the last one those of its data -/
theorem qw_rt {post : SX → Prop} {l : Int32} {b e x H : Nat → Int32} {E : Nat → Nat} {q t : Nat} (P : qr_PI E H) (hq : q < 20) (hE : E q = t + 1) (h : post (l, b, e, x, H, fun h => nI (qr_ref (qr_ue E q 0) H h))) : wpX_releaseTable post (l, b, e, x, H, fun h => nI (qr_ref E H h)) (nI t) := by
  have L : qr_Lv E t := ⟨q, hq, hE⟩
  have ht := qr_Lt P L
  obtain ⟨g1, g2, g3, g4⟩ := qt_go P hq hE
  have hu : upd (fun h => nI (qr_ref E H h)) (nI t).toNatClampNeg (nI (qr_ref E H (nI t).toNatClampNeg) - 1) = fun h => nI (qr_ref E H h - qs_b t h) := by
    rw [nI_clamp (by omega)]
    exact qi_dec (r := fun h => qr_ref E H h) (r' := fun h => qr_ref E H h - qs_b t h) rfl g1
  have hle := qr_nEle (qr_ue E q 0) t
  refine ⟨vp_in_nI ht (by omega), vp_in_nI ht (by omega), nm_r hu ⟨vp_in_nI ht (by omega), ?_⟩⟩
  rw [nI_clamp (by omega), show (fun h => nI (qr_ref E H h - qs_b t h)) t = nI (qr_nE (qr_ue E q 0) t) from congrArg nI g2]
  by_cases z : qr_nE (qr_ue E q 0) t = 0
  · refine br_t ?_ ?_
    · rw [z]; rfl
    · refine qw_rt22 (r := fun h => qr_ref E H h - qs_b t h) ht (fun i hi => ?_) (fun h => (g4 z h).1) ?_
      · exact ⟨(P.2 t L i hi).1, (P.2 t L i hi).2.1⟩
      · have e : (fun h => nI (qr_ref E H h - qs_b t h - qr_nT H t h)) = fun h => nI (qr_ref (qr_ue E q 0) H h) := by
          funext h
          rw [(g4 z h).2]
        rw [e]
        exact h
  · refine br_f (nI_ne0 (by omega) (by omega)) ?_
    have e : (fun h => nI (qr_ref E H h - qs_b t h)) = fun h => nI (qr_ref (qr_ue E q 0) H h) := by
      funext h
      rw [g3 z h]
    rw [e]
    exact h
