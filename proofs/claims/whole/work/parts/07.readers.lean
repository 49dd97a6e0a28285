theorem qx_in {a i N : Nat} (h : a * 4 + i < N) (hN : N < 2 ^ 31) : vp_in (nI a * 4 + nI i) N := by
  rw [qx_ix]
  exact vp_in_nI h hN
theorem qx_cl {a i : Nat} (h : a * 4 + i < 2 ^ 31) : (nI a * 4 + nI i).toNatClampNeg = a * 4 + i := by
  rw [qx_ix]
  exact nI_clamp h
theorem qx_40 : ¬ (4 : Int32) = 0 := by decide
theorem qx_10 : ¬ (1 : Int32) = 0 := by decide
theorem qx_nb0 : narrow .boolean (.int 0) = .int 0 := by first | rfl | decide | exact lw_bz_n 0
theorem qx_nb1 : narrow .boolean (.int 1) = .int 1 := by first | rfl | decide | exact lw_bz_n 1
theorem qx_vb0 : vp_nar .boolean 0 = 0 := by first | rfl | decide
theorem qx_vb1 : vp_nar .boolean 1 = 1 := by first | rfl | decide
theorem qx_nb {f : Int32} (h : f = 0 ∨ f = 1) : narrow .boolean (.int f) = .int f := by
  cases h with
  | inl a => rw [a]; exact qx_nb0
  | inr a => rw [a]; exact qx_nb1
theorem qx_vb {f : Int32} (h : f = 0 ∨ f = 1) : vp_nar .boolean f = f := by
  cases h with
  | inl a => rw [a]; exact qx_vb0
  | inr a => rw [a]; exact qx_vb1
def qx_o (n : Nat) (x : Int32) : Prop := x < 0 ∨ nI n ≤ x
theorem qx_split (x : Int32) {n : Nat} (hn : n < 2 ^ 31) : qx_o n x ∨ ∃ a, a < n ∧ x = nI a := by
  rcases pk_ix x hn with h | h | h
  · exact Or.inl (Or.inl h)
  · exact Or.inl (Or.inr h)
  · exact Or.inr h
theorem qx_oc {n : Nat} {x : Int32} {B C : Prop} (h : qx_o n x) (b : B) : (x < 0 → B) ∧ (¬ x < 0 → ((nI n ≤ x → B) ∧ (¬ nI n ≤ x → C))) := by
  cases h with
  | inl h => exact br_t h b
  | inr h => exact br_c (fun _ => b) (fun _ => br_t h b)
theorem qx_ol {n : Nat} {x : Int32} {B C : Prop} (h : qx_o n x) (b : B) : (x < 0 → B) ∧ (¬ x < 0 → ((x < nI n → C) ∧ (¬ x < nI n → B))) := by
  cases h with
  | inl h => exact br_t h b
  | inr h => exact br_c (fun _ => b) (fun _ => br_f (Int32.not_lt.mpr h) b)
theorem qx_m16 (l : Nat) : nI l * 4 * 4 = nI (l * 16) := by
  show nI l * nI 4 * nI 4 = nI (l * 16)
  rw [pk_mul, pk_mul, Nat.mul_assoc]
theorem qx_m4 (l : Nat) : nI l * 4 = nI (l * 4) := pk_mul l 4
theorem qx_n16 (l : Nat) : 16 * nI l = nI (l * 16) := by
  show nI 16 * nI l = nI (l * 16)
  rw [pk_mul, Nat.mul_comm]
theorem qx_n4 (l : Nat) : 4 * nI l = nI (l * 4) := by
  show nI 4 * nI l = nI (l * 4)
  rw [pk_mul, Nat.mul_comm]
theorem qw_gw0 {post : Int32 → Prop} {l : Nat} {b e x H c : Nat → Int32} {p : Int32} (h : qx_o (l * 16) p) (k : post 0) : wpX_isGuestWord post (nI l, b, e, x, H, c) p := by
  unfold wpX_isGuestWord
  dsimp only
  rw [qx_m16]
  exact qx_oc h k
theorem qw_gw1 {post : Int32 → Prop} {l : Nat} {b e x H c : Nat → Int32} {a : Nat} (hl : l ≤ 4) (h : a < l * 16) (k : post 1) : wpX_isGuestWord post (nI l, b, e, x, H, c) (nI a) := by
  unfold wpX_isGuestWord
  dsimp only
  rw [qx_m16]
  exact br_f (nI_pos (by omega)) (br_f (nI_ge h (by omega)) k)
theorem qw_gc0 {post : Int32 → Prop} {l : Nat} {b e x H c : Nat → Int32} {p : Int32} (h : qx_o (l * 4) p) (k : post 0) : wpX_isGuestCluster post (nI l, b, e, x, H, c) p := by
  unfold wpX_isGuestCluster
  dsimp only
  rw [qx_m4]
  exact qx_oc h k
theorem qw_gc1 {post : Int32 → Prop} {l : Nat} {b e x H c : Nat → Int32} {a : Nat} (hl : l ≤ 4) (h : a < l * 4) (k : post 1) : wpX_isGuestCluster post (nI l, b, e, x, H, c) (nI a) := by
  unfold wpX_isGuestCluster
  dsimp only
  rw [qx_m4]
  exact br_f (nI_pos (by omega)) (br_f (nI_ge h (by omega)) k)
theorem qy_ba1 {post : Int32 → Prop} {l : Nat} {b aA aD sE sA sD : Nat → Int32} {p : Int32} (h : qx_o (l * 16) p) (k : post 1) : wpY_badAddr post (nI l, b, aA, aD, sE, sA, sD) p := by
  unfold wpY_badAddr
  dsimp only
  rw [qx_n16]
  exact qx_ol h k
theorem qy_ba0 {post : Int32 → Prop} {l : Nat} {b aA aD sE sA sD : Nat → Int32} {a : Nat} (hl : l ≤ 4) (h : a < l * 16) (k : post 0) : wpY_badAddr post (nI l, b, aA, aD, sE, sA, sD) (nI a) := by
  unfold wpY_badAddr
  dsimp only
  rw [qx_n16]
  exact br_f (nI_pos (by omega)) (br_t (nI_lt h (by omega)) k)
theorem qy_bc1 {post : Int32 → Prop} {l : Nat} {b aA aD sE sA sD : Nat → Int32} {p : Int32} (h : qx_o (l * 4) p) (k : post 1) : wpY_badCluster post (nI l, b, aA, aD, sE, sA, sD) p := by
  unfold wpY_badCluster
  dsimp only
  rw [qx_n4]
  exact qx_ol h k
theorem qy_bc0 {post : Int32 → Prop} {l : Nat} {b aA aD sE sA sD : Nat → Int32} {a : Nat} (hl : l ≤ 4) (h : a < l * 4) (k : post 0) : wpY_badCluster post (nI l, b, aA, aD, sE, sA, sD) (nI a) := by
  unfold wpY_badCluster
  dsimp only
  rw [qx_n4]
  exact br_f (nI_pos (by omega)) (br_t (nI_lt h (by omega)) k)
theorem qw_sl0 {post : Int32 → Prop} {u : SX} {p : Int32} (h : qx_o 4 p) (k : post 0) : wpX_isSlot post u p := by
  obtain ⟨l, b, e, x, H, c⟩ := u
  exact qx_oc (n := 4) h k
theorem qw_sl1 {post : Int32 → Prop} {u : SX} {s : Nat} (h : s < 4) (k : post 1) : wpX_isSlot post u (nI s) := by
  obtain ⟨l, b, e, x, H, c⟩ := u
  exact br_f (nI_pos (by omega)) (br_f (nI_ge (b := 4) h (by omega)) k)
theorem qw_hs0 {post : Int32 → Prop} {l : Int32} {b e x H c : Nat → Int32} {p : Int32} (h : qx_o 4 p ∨ ∃ s, s < 4 ∧ p = nI s ∧ x s = 0) (k : post 0) : wpX_holdsSnapshot post (l, b, e, x, H, c) p := by
  unfold wpX_holdsSnapshot
  dsimp only
  cases h with
  | inl h => exact qw_sl0 h (br_t rfl k)
  | inr h =>
    obtain ⟨s, hs, rfl, hx⟩ := h
    refine qw_sl1 hs (br_f qx_10 ⟨vp_in_nI (by omega) (by omega), br_t ?_ k⟩)
    rw [nI_clamp (by omega)]
    exact hx
theorem qw_hs1 {post : Int32 → Prop} {l : Int32} {b e x H c : Nat → Int32} {s : Nat} (h : s < 4) (hx : x s = 1) (k : post 1) : wpX_holdsSnapshot post (l, b, e, x, H, c) (nI s) := by
  unfold wpX_holdsSnapshot
  dsimp only
  refine qw_sl1 h (br_f qx_10 ⟨vp_in_nI (by omega) (by omega), br_f ?_ k⟩)
  rw [nI_clamp (by omega), hx]
  exact qx_10
theorem qy_bs1 {post : Int32 → Prop} {l : Int32} {b aA aD sE sA sD : Nat → Int32} {p : Int32} (h : qx_o 4 p ∨ ∃ s, s < 4 ∧ p = nI s ∧ sE s = 0) (k : post 1) : wpY_badSlot post (l, b, aA, aD, sE, sA, sD) p := by
  unfold wpY_badSlot
  dsimp only
  cases h with
  | inl h => exact qx_oc (n := 4) h k
  | inr h =>
    obtain ⟨s, hs, rfl, hx⟩ := h
    refine br_f (nI_pos (by omega)) (br_f (nI_ge (b := 4) hs (by omega)) ⟨vp_in_nI hs (by omega), br_t ?_ k⟩)
    rw [nI_clamp (by omega)]
    exact hx
theorem qy_bs0 {post : Int32 → Prop} {l : Int32} {b aA aD sE sA sD : Nat → Int32} {s : Nat} (h : s < 4) (hx : sE s = 1) (k : post 0) : wpY_badSlot post (l, b, aA, aD, sE, sA, sD) (nI s) := by
  unfold wpY_badSlot
  dsimp only
  refine br_f (nI_pos (by omega)) (br_f (nI_ge (b := 4) h (by omega)) ⟨vp_in_nI h (by omega), br_f ?_ k⟩)
  rw [nI_clamp (by omega), hx]
  exact qx_10
theorem qw_nh {post : Int32 → Prop} {u : SX} {w : Nat} (hw : w ≤ 128) (h0 : w = 0 → post 0) (h1 : ∀ d, w = d + 1 → post 1) : wpX_namesHostCluster post u (nI w) := by
  obtain ⟨l, b, e, x, H, c⟩ := u
  by_cases z : w = 0
  · refine br_t ?_ (h0 z)
    rw [z]
    decide
  · exact br_f (nI_nle (by omega) (by omega)) (br_f (nI_nlt (a := 128) (b := w) (by omega) (by omega)) (h1 (w - 1) (by omega)))
theorem qv_dle {E : Nat → Nat} {H : Nat → Int32} {v c : Nat} (P : qr_PI E H) (hv : v < 5) (hc : c < 16) : qv_de E H v c ≤ 128 := by
  by_cases z : E (v * 4 + c / 4) = 0
  · rw [qv_de0 z]; omega
  · have e : E (v * 4 + c / 4) = (E (v * 4 + c / 4) - 1) + 1 := by omega
    rw [qv_det e]
    exact (P.2 _ ⟨_, by omega, e⟩ _ (by omega)).2.1
theorem qw_de {post : Int32 → Prop} {l : Int32} {b x c H : Nat → Int32} {E : Nat → Nat} {v g : Nat} (P : qr_PI E H) (hv : v < 5) (hg : g < 16) (k : post (nI (qv_de E H v g))) : wpX_dataEntry post (l, b, fun p => nI (E p), x, H, c) (nI v) (nI g) := by
  unfold wpX_dataEntry
  dsimp only
  rw [qx_r4 (by omega), qx_d4 (by omega), qx_cl (by omega)]
  refine ⟨qx_40, qx_in (by omega) (by omega), nm_e (qw_nh (P.1 _) (fun z => br_t rfl ?_) (fun d z => br_f qx_10 ⟨qx_40, ?_, ?_⟩))⟩
  · rw [qv_de0 z] at k
    exact k
  · have hd : d < 128 := by have := P.1 (v * 4 + g / 4); omega
    rw [z, nI_pred]
    exact qx_in (by omega) (by omega)
  · have hd : d < 128 := by have := P.1 (v * 4 + g / 4); omega
    rw [z, nI_pred, qx_cl (by omega), (P.2 d ⟨_, by omega, z⟩ (g % 4) (by omega)).1, ← qv_det z]
    exact k
theorem qw_wv {post : Int32 → Prop} {l : Int32} {b x c H : Nat → Int32} {E : Nat → Nat} {v a : Nat} (P : qr_PI E H) (hv : v < 5) (ha : a < 64) (k0 : qv_de E H v (a / 4) = 0 → post (b a)) (k1 : ∀ d, qv_de E H v (a / 4) = d + 1 → post (H (d * 4 + a % 4))) : wpX_wordInView post (l, b, fun p => nI (E p), x, H, c) (nI v) (nI a) := by
  unfold wpX_wordInView
  dsimp only
  rw [qx_r4 (by omega), qx_d4 (by omega)]
  refine ⟨qx_40, qw_de P hv (by omega) (qw_nh (qv_dle P hv (by omega)) (fun z => br_t rfl ⟨vp_in_nI ha (by omega), ?_⟩) (fun d z => br_f qx_10 ⟨qx_40, ?_, ?_⟩))⟩
  · rw [nI_clamp (by omega)]
    exact k0 z
  · have hd : d < 128 := by have := qv_dle P hv (c := a / 4) (by omega); omega
    rw [z, nI_pred]
    exact qx_in (by omega) (by omega)
  · have hd : d < 128 := by have := qv_dle P hv (c := a / 4) (by omega); omega
    rw [z, nI_pred, qx_cl (by omega)]
    exact k1 d z
theorem qw_ai {post : Int32 → Prop} {l : Int32} {b x c H : Nat → Int32} {E : Nat → Nat} {v g : Nat} (P : qr_PI E H) (hv : v < 5) (hg : g < 16) (k0 : qv_de E H v g = 0 → post 0) (k1 : ∀ d, qv_de E H v g = d + 1 → post 1) : wpX_isAllocatedIn post (l, b, fun p => nI (E p), x, H, c) (nI v) (nI g) := by
  unfold wpX_isAllocatedIn
  dsimp only
  exact qw_de P hv hg (qw_nh (qv_dle P hv hg) (fun z => ⟨qx_nb0, k0 z⟩) (fun d z => ⟨qx_nb1, k1 d z⟩))
