theorem qx_ix16 (a i : Nat) : nI a * 16 + nI i = nI (a * 16 + i) := by
  show nI a * nI 16 + nI i = nI (a * 16 + i)
  rw [pk_mul, nI_add]
theorem qx_ix64 (a i : Nat) : nI a * 64 + nI i = nI (a * 64 + i) := by
  show nI a * nI 64 + nI i = nI (a * 64 + i)
  rw [pk_mul, nI_add]
theorem qh_step0 {A W : Nat → Int32} {n : Nat} {x : Int32} (hx : x = W n) : upd (qh_s A 0 W n) n x = qh_s A 0 W (n + 1) := by
  have h := qh_step (A := A) (W := W) (o := 0) (n := n) hx
  rw [Nat.zero_add] at h
  exact h
theorem qy_w26 {post : Int32 → SY → Prop} {l : Int32} {b aA aD sE sA sD : Nat → Int32} {a g : Nat} {y : Int32} (hg : g < 16) (ha : a < 64) (k : post 1 (l, b, upd aA g 1, upd (qh_s aD (g * 4) (fun i => b (g * 4 + i)) 4) a y, sE, sA, sD)) : ∃ n, wY_write_26 post (nI a) y (nI g) l n 0 b aA aD sE sA sD := by
  refine loop_0 (fun n i (s : Nat → Int32) => wY_write_26 post (nI a) y (nI g) l n (nI i) b aA s sE sA sD) (fun i s => s = qh_s aD (g * 4) (fun i => b (g * 4 + i)) i) 4 aD (qh_0 _ _ _).symm (fun n s hs => ?_) (fun n i s hi hs kk => ?_)
  · rw [hs]
    have e1 : upd aA (nI g).toNatClampNeg (vp_nar .boolean 1) = upd aA g 1 := by rw [nI_clamp (by omega), qx_vb1]
    have e2 : upd (qh_s aD (g * 4) (fun i => b (g * 4 + i)) 4) (nI a).toNatClampNeg y = upd (qh_s aD (g * 4) (fun i => b (g * 4 + i)) 4) a y := by rw [nI_clamp (by omega)]
    exact br_t (nI_le (a := 4) (by omega) (by omega)) ⟨vp_in_nI hg (by omega), nm_r e1 ⟨vp_in_nI ha (by omega), nm_r e2 k⟩⟩
  · have he : upd s (nI g * 4 + nI i).toNatClampNeg (b (nI g * 4 + nI i).toNatClampNeg) = qh_s aD (g * 4) (fun i => b (g * 4 + i)) (i + 1) := by
      rw [qx_cl (by omega), hs]
      exact qh_step rfl
    exact br_f (nI_ge (b := 4) hi (by omega)) ⟨qx_in (by omega) (by omega), qx_in (by omega) (by omega), nm_r he (nm_r (nI_1 i) (kk _ rfl))⟩
theorem qy_wr0 {post : Int32 → SY → Prop} {l : Nat} {b aA aD sE sA sD : Nat → Int32} {a : Nat} {y : Int32} (hl : l ≤ 4) (ha : a < l * 16) (h0 : aA (a / 4) = 0) (k : post 1 (nI l, b, upd aA (a / 4) 1, upd (qh_s aD (a / 4 * 4) (fun i => b (a / 4 * 4 + i)) 4) a y, sE, sA, sD)) : wpY_write post (nI l, b, aA, aD, sE, sA, sD) (nI a) y := by
  unfold wpY_write
  dsimp only
  refine qy_ba0 hl ha (br_t rfl ⟨qx_40, nm_r (qx_d4 (by omega)) ⟨vp_in_nI (by omega) (by omega), br_t ?_ (qy_w26 (by omega) (by omega) k)⟩⟩)
  rw [nI_clamp (by omega)]
  exact h0
theorem qy_wr1 {post : Int32 → SY → Prop} {l : Nat} {b aA aD sE sA sD : Nat → Int32} {a : Nat} {y : Int32} (hl : l ≤ 4) (ha : a < l * 16) (h1 : aA (a / 4) = 1) (k : post 1 (nI l, b, aA, upd aD a y, sE, sA, sD)) : wpY_write post (nI l, b, aA, aD, sE, sA, sD) (nI a) y := by
  unfold wpY_write
  dsimp only
  have e2 : upd aD (nI a).toNatClampNeg y = upd aD a y := by rw [nI_clamp (by omega)]
  refine qy_ba0 hl ha (br_t rfl ⟨qx_40, nm_r (qx_d4 (by omega)) ⟨vp_in_nI (by omega) (by omega), br_f ?_ ⟨vp_in_nI (by omega) (by omega), nm_r e2 k⟩⟩⟩)
  rw [nI_clamp (by omega), h1]
  exact qx_10
theorem qy_rd {post : Int32 → Prop} {l : Nat} {b aA aD sE sA sD : Nat → Int32} {a : Nat} (hl : l ≤ 4) (ha : a < l * 16) (k0 : aA (a / 4) = 0 → post (b a)) (k1 : aA (a / 4) ≠ 0 → post (aD a)) : wpY_read post (nI l, b, aA, aD, sE, sA, sD) (nI a) := by
  unfold wpY_read
  dsimp only
  rw [qx_d4 (by omega), nI_clamp (by omega), nI_clamp (by omega)]
  exact qy_ba0 hl ha (br_t rfl ⟨qx_40, vp_in_nI (by omega) (by omega), br_c (fun z => ⟨vp_in_nI (by omega) (by omega), k0 z⟩) (fun z => ⟨vp_in_nI (by omega) (by omega), k1 z⟩)⟩)
theorem qy_sc53 {post : Int32 → SY → Prop} {l : Int32} {b aA aD sE sA sD : Nat → Int32} {s : Nat} (hs : s < 4) (k : post 1 (l, b, aA, aD, upd sE s 1, sA, qh_s sD (s * 64) aD 64)) : ∃ n, wY_snapshotCreate_53 post (nI s) l n 0 b aA aD sE sA sD := by
  refine loop_0 (fun n i (t : Nat → Int32) => wY_snapshotCreate_53 post (nI s) l n (nI i) b aA aD sE sA t) (fun i t => t = qh_s sD (s * 64) aD i) 64 sD (qh_0 _ _ _).symm (fun n t ht => ?_) (fun n i t hi ht kk => ?_)
  · rw [ht]
    have e1 : upd sE (nI s).toNatClampNeg (vp_nar .boolean 1) = upd sE s 1 := by rw [nI_clamp (by omega), qx_vb1]
    exact br_t (nI_le (a := 64) (by omega) (by omega)) ⟨vp_in_nI hs (by omega), nm_r e1 k⟩
  · have he : upd t (nI s * 64 + nI i).toNatClampNeg (aD (nI i).toNatClampNeg) = qh_s sD (s * 64) aD (i + 1) := by
      rw [qx_ix64, nI_clamp (by omega), nI_clamp (by omega), ht]
      exact qh_step rfl
    refine br_f (nI_ge (b := 64) hi (by omega)) ⟨vp_in_nI hi (by omega), ?_, nm_r he (nm_r (nI_1 i) (kk _ rfl))⟩
    rw [qx_ix64]
    exact vp_in_nI (by omega) (by omega)
theorem qy_sc {post : Int32 → SY → Prop} {l : Int32} {b aA aD sE sA sD : Nat → Int32} {s : Nat} (hs : s < 4) (hA : ∀ c, c < 16 → aA c = 0 ∨ aA c = 1) (h0 : sE s = 0) (k : post 1 (l, b, aA, aD, upd sE s 1, qh_s sA (s * 16) aA 16, qh_s sD (s * 64) aD 64)) : wpY_snapshotCreate post (l, b, aA, aD, sE, sA, sD) (nI s) := by
  unfold wpY_snapshotCreate
  dsimp only
  refine br_f (nI_pos (by omega)) (br_f (nI_ge (b := 4) hs (by omega)) ⟨vp_in_nI hs (by omega), br_t ?_ ?_⟩)
  · rw [nI_clamp (by omega)]
    exact h0
  · refine loop_0 (fun n i (t : Nat → Int32) => wY_snapshotCreate_22 post (nI s) l n (nI i) b aA aD sE t sD) (fun i t => t = qh_s sA (s * 16) aA i) 16 sA (qh_0 _ _ _).symm (fun n t ht => ?_) (fun n i t hi ht kk => ?_)
    · rw [ht]
      exact br_t (nI_le (a := 16) (by omega) (by omega)) (qy_sc53 hs k)
    · have he : upd t (nI s * 16 + nI i).toNatClampNeg (vp_nar .boolean (aA (nI i).toNatClampNeg)) = qh_s sA (s * 16) aA (i + 1) := by
        rw [qx_ix16, nI_clamp (by omega), nI_clamp (by omega), ht, qx_vb (hA i hi)]
        exact qh_step rfl
      refine br_f (nI_ge (b := 16) hi (by omega)) ⟨vp_in_nI hi (by omega), ?_, nm_r he (nm_r (nI_1 i) (kk _ rfl))⟩
      rw [qx_ix16]
      exact vp_in_nI (by omega) (by omega)
theorem qy_sa43 {post : Int32 → SY → Prop} {l : Int32} {b aA aD sE sA sD : Nat → Int32} {s : Nat} (hs : s < 4) (k : post 1 (l, b, aA, qh_s aD 0 (fun a => sD (s * 64 + a)) 64, sE, sA, sD)) : ∃ n, wY_snapshotApply_43 post (nI s) l n 0 b aA aD sE sA sD := by
  refine loop_0 (fun n i (t : Nat → Int32) => wY_snapshotApply_43 post (nI s) l n (nI i) b aA t sE sA sD) (fun i t => t = qh_s aD 0 (fun a => sD (s * 64 + a)) i) 64 aD (qh_0 _ _ _).symm (fun n t ht => ?_) (fun n i t hi ht kk => ?_)
  · rw [ht]
    exact br_t (nI_le (a := 64) (by omega) (by omega)) k
  · have he : upd t (nI i).toNatClampNeg (sD (nI s * 64 + nI i).toNatClampNeg) = qh_s aD 0 (fun a => sD (s * 64 + a)) (i + 1) := by
      rw [qx_ix64, nI_clamp (by omega), nI_clamp (by omega), ht]
      exact qh_step0 rfl
    refine br_f (nI_ge (b := 64) hi (by omega)) ⟨?_, vp_in_nI hi (by omega), nm_r he (nm_r (nI_1 i) (kk _ rfl))⟩
    rw [qx_ix64]
    exact vp_in_nI (by omega) (by omega)
theorem qy_sa {post : Int32 → SY → Prop} {l : Int32} {b aA aD sE sA sD : Nat → Int32} {s : Nat} (hs : s < 4) (h1 : sE s = 1) (hA : ∀ c, c < 16 → sA (s * 16 + c) = 0 ∨ sA (s * 16 + c) = 1) (k : post 1 (l, b, qh_s aA 0 (fun c => sA (s * 16 + c)) 16, qh_s aD 0 (fun a => sD (s * 64 + a)) 64, sE, sA, sD)) : wpY_snapshotApply post (l, b, aA, aD, sE, sA, sD) (nI s) := by
  unfold wpY_snapshotApply
  dsimp only
  refine qy_bs0 hs h1 (br_t rfl ?_)
  refine loop_0 (fun n i (t : Nat → Int32) => wY_snapshotApply_12 post (nI s) l n (nI i) b t aD sE sA sD) (fun i t => t = qh_s aA 0 (fun c => sA (s * 16 + c)) i) 16 aA (qh_0 _ _ _).symm (fun n t ht => ?_) (fun n i t hi ht kk => ?_)
  · rw [ht]
    exact br_t (nI_le (a := 16) (by omega) (by omega)) (qy_sa43 hs k)
  · have he : upd t (nI i).toNatClampNeg (vp_nar .boolean (sA (nI s * 16 + nI i).toNatClampNeg)) = qh_s aA 0 (fun c => sA (s * 16 + c)) (i + 1) := by
      rw [qx_ix16, nI_clamp (by omega), nI_clamp (by omega), ht, qx_vb (hA i hi)]
      exact qh_step0 rfl
    refine br_f (nI_ge (b := 16) hi (by omega)) ⟨?_, vp_in_nI hi (by omega), nm_r he (nm_r (nI_1 i) (kk _ rfl))⟩
    rw [qx_ix16]
    exact vp_in_nI (by omega) (by omega)
/-- what is counted and what is copied by the first n clusters -/
def qc_n (aA : Nat → Int32) (n : Nat) : Nat := qs_sm (fun c => if aA c = 0 then 0 else 1) n
def qc_b (b aA aD : Nat → Int32) : Nat → (Nat → Int32)
  | 0 => b
  | n + 1 => if aA n = 0 then qc_b b aA aD n else qh_s (qc_b b aA aD n) (n * 4) (fun i => aD (n * 4 + i)) 4
theorem qc_n0 {aA : Nat → Int32} {n : Nat} (h : aA n = 0) : qc_n aA (n + 1) = qc_n aA n := by
  show qc_n aA n + (if aA n = 0 then 0 else 1) = qc_n aA n
  rw [if_pos h, Nat.add_zero]
theorem qc_n1 {aA : Nat → Int32} {n : Nat} (h : ¬ aA n = 0) : qc_n aA (n + 1) = qc_n aA n + 1 := by
  show qc_n aA n + (if aA n = 0 then 0 else 1) = qc_n aA n + 1
  rw [if_neg h]
theorem qc_b0 {b aA aD : Nat → Int32} {n : Nat} (h : aA n = 0) : qc_b b aA aD (n + 1) = qc_b b aA aD n := if_pos h
theorem qc_b1 {b aA aD : Nat → Int32} {n : Nat} (h : ¬ aA n = 0) : qc_b b aA aD (n + 1) = qh_s (qc_b b aA aD n) (n * 4) (fun i => aD (n * 4 + i)) 4 := if_neg h
theorem qy_ac {post : Int32 → Prop} {l : Nat} {b aA aD sE sA sD : Nat → Int32} (hl : l ≤ 4) (k : post (nI (qc_n aA (l * 4)))) : wpY_allocatedCount post (nI l, b, aA, aD, sE, sA, sD) := by
  refine loop_0 (fun n i (_ : Unit) => wY_allocatedCount_4 post (nI l) b aA aD sE sA sD n (nI (qc_n aA i)) (nI i)) (fun _ _ => True) (l * 4) () trivial (fun n _ _ => ?_) (fun n i _ hi _ kk => ?_)
  · refine br_t ?_ k
    rw [qx_n4]
    exact nI_le (Nat.le_refl _) (by omega)
  · have k' := kk () trivial
    refine br_f ?_ ⟨vp_in_nI (by omega) (by omega), ?_⟩
    · rw [qx_n4]
      exact nI_ge hi (by omega)
    · rw [nI_clamp (by omega)]
      refine br_c (fun z => nm_r (nI_1 i) ?_) (fun z => nm_r (nI_1 _) (nm_r (nI_1 i) ?_))
      · rw [qc_n0 z] at k'
        exact k'
      · rw [qc_n1 z] at k'
        exact k'
theorem qw_ac {post : Int32 → Prop} {l : Nat} {b x c H aA aD : Nat → Int32} {E : Nat → Nat} (hl : l ≤ 4) (P : qr_PI E H) (V : qv_V E H 4 aA aD) (k : post (nI (qc_n aA (l * 4)))) : wpX_allocatedCount post (nI l, b, fun p => nI (E p), x, H, c) := by
  refine loop_0 (fun n i (_ : Unit) => wX_allocatedCount_4 post (nI l) b (fun p => nI (E p)) x H c n (nI (qc_n aA i)) (nI i)) (fun _ _ => True) (l * 4) () trivial (fun n _ _ => ?_) (fun n i _ hi _ kk => ?_)
  · refine br_t ?_ k
    rw [qx_m4]
    exact nI_le (Nat.le_refl _) (by omega)
  · have k' := kk () trivial
    refine br_f ?_ (qw_ai (v := 4) P (by omega) (by omega) (fun z => br_t rfl (nm_r (nI_1 i) ?_)) (fun d z => br_f qx_10 (nm_r (nI_1 _) (nm_r (nI_1 i) ?_))))
    · rw [qx_m4]
      exact nI_ge hi (by omega)
    · have f0 : aA i = 0 := by
        cases V i (by omega) with
        | inl a => exact a.2
        | inr a => obtain ⟨e, he, _, _⟩ := a; omega
      rw [qc_n0 f0] at k'
      exact k'
    · have f1 : ¬ aA i = 0 := by
        cases V i (by omega) with
        | inl a => omega
        | inr a => obtain ⟨e, _, he, _⟩ := a; rw [he]; exact qx_10
      rw [qc_n1 f1] at k'
      exact k'
theorem qy_cm67 {post : Int32 → SY → Prop} {l y : Int32} {b aA aD sE sA sD : Nat → Int32} (k : post y (l, b, qh_s aA 0 (fun _ => 0) 16, aD, sE, sA, sD)) : ∃ n, wY_commit_67 post y l n 0 b aA aD sE sA sD := by
  refine loop_0 (fun n i (t : Nat → Int32) => wY_commit_67 post y l n (nI i) b t aD sE sA sD) (fun i t => t = qh_s aA 0 (fun _ => 0) i) 16 aA (qh_0 _ _ _).symm (fun n t ht => ?_) (fun n i t hi ht kk => ?_)
  · rw [ht]
    exact br_t (nI_le (a := 16) (by omega) (by omega)) k
  · have he : upd t (nI i).toNatClampNeg (vp_nar .boolean 0) = qh_s aA 0 (fun _ => 0) (i + 1) := by
      rw [nI_clamp (by omega), ht, qx_vb0]
      exact qh_step0 rfl
    exact br_f (nI_ge (b := 16) hi (by omega)) ⟨vp_in_nI hi (by omega), nm_r he (nm_r (nI_1 i) (kk _ rfl))⟩
theorem qy_cm25 {post : Int32 → SY → Prop} {J : Int32 → Int32 → (Nat → Int32) → (Nat → Int32) → (Nat → Int32) → (Nat → Int32) → (Nat → Int32) → (Nat → Int32) → Prop} {l : Int32} {b aA aD sE sA sD : Nat → Int32} {m g : Nat} (hg : g < 16) (k : J (nI (m + 1)) (nI (g + 1)) (qh_s b (g * 4) (fun i => aD (g * 4 + i)) 4) aA aD sE sA sD) : ∃ n, wY_commit_25 post J (nI m) (nI g) l n 0 b aA aD sE sA sD := by
  refine loop_0 (fun n i (t : Nat → Int32) => wY_commit_25 post J (nI m) (nI g) l n (nI i) t aA aD sE sA sD) (fun i t => t = qh_s b (g * 4) (fun i => aD (g * 4 + i)) i) 4 b (qh_0 _ _ _).symm (fun n t ht => ?_) (fun n i t hi ht kk => ?_)
  · rw [ht]
    exact br_t (nI_le (a := 4) (by omega) (by omega)) (nm_r (nI_1 m) (nm_r (nI_1 g) k))
  · have he : upd t (nI g * 4 + nI i).toNatClampNeg (aD (nI g * 4 + nI i).toNatClampNeg) = qh_s b (g * 4) (fun i => aD (g * 4 + i)) (i + 1) := by
      rw [qx_cl (by omega), ht]
      exact qh_step rfl
    exact br_f (nI_ge (b := 4) hi (by omega)) ⟨qx_in (by omega) (by omega), qx_in (by omega) (by omega), nm_r he (nm_r (nI_1 i) (kk _ rfl))⟩
theorem qy_cm {post : Int32 → SY → Prop} {l : Nat} {b aA aD sE sA sD : Nat → Int32} (hl : l ≤ 4) (k : post (nI (qc_n aA (l * 4))) (nI l, qc_b b aA aD (l * 4), qh_s aA 0 (fun _ => 0) 16, aD, sE, sA, sD)) : wpY_commit post (nI l, b, aA, aD, sE, sA, sD) := by
  refine loop_0 (fun n i (_ : Unit) => wY_commit_4 post (nI l) n (nI (qc_n aA i)) (nI i) (qc_b b aA aD i) aA aD sE sA sD) (fun _ _ => True) (l * 4) () trivial (fun n _ _ => ?_) (fun n i _ hi _ kk => ?_)
  · refine br_t ?_ (qy_cm67 k)
    rw [qx_n4]
    exact nI_le (Nat.le_refl _) (by omega)
  · have k' := kk () trivial
    refine br_f ?_ ⟨vp_in_nI (by omega) (by omega), ?_⟩
    · rw [qx_n4]
      exact nI_ge hi (by omega)
    · rw [nI_clamp (by omega)]
      refine br_c (fun z => nm_r (nI_1 i) ?_) (fun z => qy_cm25 (by omega) ?_)
      · rw [qc_n0 z, qc_b0 z] at k'
        exact k'
      · rw [qc_n1 z, qc_b1 z] at k'
        exact k'
theorem qw_cm {post : Int32 → SX → Prop} {l : Nat} {b x c H aA aD : Nat → Int32} {E : Nat → Nat} (hl : l ≤ 4) (P : qr_PI E H) (V : qv_V E H 4 aA aD) (k : wpX_releaseTables (fun u => post (nI (qc_n aA (l * 4))) u) (nI l, qc_b b aA aD (l * 4), fun p => nI (E p), x, H, c) (nI 4)) : wpX_commit post (nI l, b, fun p => nI (E p), x, H, c) := by
  refine loop_0 (fun n i (_ : Unit) => wX_commit_4 post n (nI (qc_n aA i)) (nI i) (nI l) (qc_b b aA aD i) (fun p => nI (E p)) x H c) (fun _ _ => True) (l * 4) () trivial (fun n _ _ => ?_) (fun n i _ hi _ kk => ?_)
  · refine br_t ?_ k
    rw [qx_m4]
    exact nI_le (Nat.le_refl _) (by omega)
  · have k' := kk () trivial
    refine br_f ?_ (qw_de (v := 4) P (by omega) (by omega) (qw_nh (qv_dle P (by omega) (by omega)) (fun z => br_t rfl (nm_r (nI_1 i) ?_)) (fun d z => br_f qx_10 ?_)))
    · rw [qx_m4]
      exact nI_ge hi (by omega)
    · have f0 : aA i = 0 := by
        cases V i (by omega) with
        | inl a => exact a.2
        | inr a => obtain ⟨e, he, _, _⟩ := a; omega
      rw [qc_n0 f0, qc_b0 f0] at k'
      exact k'
    · have f1 : ¬ aA i = 0 ∧ ∀ j, j < 4 → H (d * 4 + j) = aD (i * 4 + j) := by
        cases V i (by omega) with
        | inl a => omega
        | inr a =>
          obtain ⟨e, h1, he, h2⟩ := a
          have ee : e = d := by omega
          rw [ee] at h2
          exact ⟨by rw [he]; exact qx_10, h2⟩
      have hd : d < 128 := by have := qv_dle P (v := 4) (c := i) (by omega) (by omega); omega
      rw [qc_n1 f1.1, qc_b1 f1.1] at k'
      rw [z, nI_pred]
      refine qw_toB (by omega) hd (nm_r (nI_1 _) (nm_r (nI_1 i) ?_))
      rw [qh_cong (W := fun j => H (d * 4 + j)) (W' := fun j => aD (i * 4 + j)) f1.2]
      exact k'
