/-! the calls that change the table -/
theorem bo_0 : vp_nar .boolean 0 = nI 0 := by rfl
theorem bo_1 : vp_nar .boolean 1 = nI 1 := by rfl
/-- x is a number below n -/
def vr_N (x : Int32) (n : Nat) : Prop := ∃ j, j < n ∧ x = nI j
theorem vr_ge {x N : Int32} {A B : Prop} (n : Nat) (a : ¬ vr_N x n → A) (b : vr_N x n → B) (hN : N = nI n := by rfl) (hn : n < 2 ^ 31 := by omega) : (x < 0 → A) ∧ (¬ x < 0 → ((N ≤ x → A) ∧ (¬ N ≤ x → B))) := by
  subst hN
  refine br_c (fun z => a ?_) (fun z => br_c (fun w => a ?_) (fun w => b ?_))
  · rintro ⟨j, hj, rfl⟩
    exact nI_pos (by omega) z
  · rintro ⟨j, hj, rfl⟩
    rw [nI_leI hn (by omega)] at w
    omega
  · obtain ⟨j, hj, rfl⟩ := nI_of z
    rw [nI_leI hn hj] at w
    exact ⟨j, by omega, rfl⟩
theorem vr_le {x M : Int32} {A B : Prop} (m : Nat) (a : ¬ vr_N x (m + 1) → A) (b : vr_N x (m + 1) → B) (hN : M = nI m := by rfl) (hn : m + 1 < 2 ^ 31 := by omega) : (x < 0 → A) ∧ (¬ x < 0 → ((x ≤ M → B) ∧ (¬ x ≤ M → A))) := by
  subst hN
  refine br_c (fun z => a ?_) (fun z => br_c (fun w => b ?_) (fun w => a ?_))
  · rintro ⟨j, hj, rfl⟩
    exact nI_pos (by omega) z
  · obtain ⟨j, hj, rfl⟩ := nI_of z
    rw [nI_leI hj (by omega)] at w
    exact ⟨j, by omega, rfl⟩
  · rintro ⟨j, hj, rfl⟩
    rw [nI_leI (by omega) (by omega)] at w
    omega
theorem vr_lt {x M : Int32} {A B : Prop} (m : Nat) (a : ¬ vr_N x (m + 1) → A) (b : vr_N x (m + 1) → B) (hN : M = nI m := by rfl) (hn : m + 1 < 2 ^ 31 := by omega) : (x < 0 → A) ∧ (¬ x < 0 → ((M < x → A) ∧ (¬ M < x → B))) := by
  subst hN
  refine br_c (fun z => a ?_) (fun z => br_c (fun w => a ?_) (fun w => b ?_))
  · rintro ⟨j, hj, rfl⟩
    exact nI_pos (by omega) z
  · rintro ⟨j, hj, rfl⟩
    rw [nI_ltI (by omega) (by omega)] at w
    omega
  · obtain ⟨j, hj, rfl⟩ := nI_of z
    rw [nI_ltI (by omega) hj] at w
    exact ⟨j, by omega, rfl⟩
theorem rc_up_lt {f : Nat → Nat} {k v b : Nat} (hf : ∀ j, f j < b) (hv : v < b) : ∀ j, rc_up f k v j < b := by
  intro j
  unfold rc_up
  exact bx_ite hv (hf j)
section
variable {c : Nat} {pr so ta rs sg le gr bd ur : Nat → Nat}
variable {n : Int32} {fd ft us : Nat → Int32}
theorem xm_isBit {post : Int32 → Prop} {x : Int32} (h1 : vr_N x 2 → post 1) (h0 : ¬ vr_N x 2 → post 0) : wpX_isBit post (xs_S c pr so ta rs sg le gr bd ur n fd ft us) x := by
  refine br_c (fun z => h1 ⟨0, by omega, z⟩) (fun z => br_c (fun w => h1 ⟨1, by omega, w⟩) (fun w => h0 ?_))
  rintro ⟨j, hj, rfl⟩
  match j, hj with
  | 0, _ => exact z rfl
  | 1, _ => exact w rfl
theorem xm_isEdge {post : Int32 → Prop} {x : Int32} (G : tp_G c pr so ta rs sg le gr bd ur) (h1 : vr_N x c → post 1) (h0 : ¬ vr_N x c → post 0) : wpX_isEdge post (xs_S c pr so ta rs sg le gr bd ur n fd ft us) x := vr_ge c h0 h1 rfl (by have := G.1; omega)
theorem xm_isValue {post : Int32 → Prop} {x : Int32} (h1 : vr_N x 7 → post 1) (h0 : ¬ vr_N x 7 → post 0) : wpX_isValue post (xs_S c pr so ta rs sg le gr bd ur n fd ft us) x := vr_lt 6 h0 h1
theorem xm_isVU {post : Int32 → Prop} {x : Int32} (h1 : vr_N x 8 → post 1) (h0 : ¬ vr_N x 8 → post 0) : wpX_isValueOrUnbounded post (xs_S c pr so ta rs sg le gr bd ur n fd ft us) x := vr_lt 7 h0 h1
theorem xm_isPlace {post : Int32 → Prop} {x : Int32} (h1 : vr_N x 8 → post 1) (h0 : ¬ vr_N x 8 → post 0) : wpX_isPlace post (xs_S c pr so ta rs sg le gr bd ur n fd ft us) x := vr_ge 8 h0 h1
theorem xm_isPair {post : Int32 → Prop} {x : Int32} (h1 : vr_N x 16 → post 1) (h0 : ¬ vr_N x 16 → post 0) : wpX_isPair post (xs_S c pr so ta rs sg le gr bd ur n fd ft us) x := vr_ge 16 h0 h1
theorem ym_isEdge {post : Int32 → Prop} {x : Int32} (G : tp_G c pr so ta rs sg le gr bd ur) (h1 : vr_N x c → post 1) (h0 : ¬ vr_N x c → post 0) : wpY_isEdge post (ys_S c pr so ta rs sg le gr bd ur n fd ft us) x := vr_ge c h0 h1 rfl (by have := G.1; omega)
theorem ym_badPair {post : Int32 → Prop} {x : Int32} (h1 : vr_N x 16 → post 0) (h0 : ¬ vr_N x 16 → post 1) : wpY_badPair post (ys_S c pr so ta rs sg le gr bd ur n fd ft us) x := vr_le 15 h0 h1
end
/-- the same table on both sides; what the last search left is free -/
def i_Rel (_k : Nat) (u : SX) (v : SY) : Prop := ∃ (c : Nat) (pr so ta rs sg le gr bd ur : Nat → Nat) (n n' : Int32) (fd ft us fd' ft' us' : Nat → Int32), tp_G c pr so ta rs sg le gr bd ur ∧ u = xs_S c pr so ta rs sg le gr bd ur n fd ft us ∧ v = ys_S c pr so ta rs sg le gr bd ur n' fd' ft' us'
theorem i_up {k : Nat} {u : SX} {v : SY} (h : i_Rel k u v) : i_Rel (k + 5) u v := h
/-! the constructors -/
def in_b (i : Nat) : Nat → Nat := fun j => if j < i then 7 else 0
theorem in_b_up (i : Nat) : upd (tp_I (in_b i)) i 7 = tp_I (in_b (i + 1)) := by
  rw [show (7 : Int32) = nI 7 from rfl, tp_I_up]
  refine congrArg tp_I ?_
  funext j
  unfold rc_up in_b
  by_cases z : j = i
  · rw [if_pos z, if_pos (by omega)]
  · rw [if_neg z]
    by_cases w : j < i
    · rw [if_pos w, if_pos (by omega)]
    · rw [if_neg w, if_neg (by omega)]
theorem in_x {post : SX → Prop} {a b : Int32} {a1 a2 a3 a4 a5 a6 a7 a9 a10 a11 a12 : Nat → Int32} (p : post (a, b, a1, a2, a3, a4, a5, a6, a7, tp_I (in_b 16), a9, a10, a11, a12)) :
    ∀ m i, 16 - i < m → i ≤ 16 → wX_init_114 post a b m (nI i) a1 a2 a3 a4 a5 a6 a7 (tp_I (in_b i)) a9 a10 a11 a12 := by
  intro m
  induction m with
  | zero => intro i h; omega
  | succ m ih =>
    intro i h1 h2
    refine pk_le 16 i (fun z => ?_) (fun z => ?_)
    · have e : i = 16 := by omega
      subst e
      exact p
    · rw [nI_clamp (show i < 2 ^ 31 by omega)]
      exact ⟨vp_in_nI z (by omega), nm_r (in_b_up i) (nm_r (nI_1 i) (ih (i + 1) (by omega) (by omega)))⟩
theorem in_y {post : SY → Prop} {a b : Int32} {a1 a2 a3 a4 a5 a6 a7 a9 a10 a11 a12 : Nat → Int32} (p : post (a, b, a1, a2, a3, a4, a5, a6, a7, tp_I (in_b 16), a9, a10, a11, a12)) :
    ∀ m i, 16 - i < m → i ≤ 16 → wY_init_104 post a b m (nI i) a1 a2 a3 a4 a5 a6 a7 (tp_I (in_b i)) a9 a10 a11 a12 := by
  intro m
  induction m with
  | zero => intro i h; omega
  | succ m ih =>
    intro i h1 h2
    refine pk_le 16 i (fun z => ?_) (fun z => ?_)
    · have e : i = 16 := by omega
      subst e
      exact p
    · rw [nI_clamp (show i < 2 ^ 31 by omega)]
      exact ⟨vp_in_nI z (by omega), nm_r (in_b_up i) (nm_r (nI_1 i) (ih (i + 1) (by omega) (by omega)))⟩
theorem in_b_0 : tp_I (in_b 0) = fun _ => 0 := by
  funext j
  show nI (if j < 0 then 7 else 0) = 0
  rw [if_neg (by omega)]
  rfl
theorem i_vc0 : wpX_init (fun u => wpY_init (fun v => i_Rel 0 u v)) := by
  refine ⟨16 + 1, ?_⟩
  rw [← in_b_0]
  refine in_x ?_ (16 + 1) 0 (by omega) (by omega)
  refine ⟨16 + 1, ?_⟩
  rw [← in_b_0]
  refine in_y ?_ (16 + 1) 0 (by omega) (by omega)
  refine ⟨0, in_b 0, in_b 0, in_b 0, in_b 0, in_b 0, in_b 0, in_b 0, in_b 16, in_b 0, 0, 0, tp_I (in_b 0), tp_I (in_b 0), tp_I (in_b 0), tp_I (in_b 0), tp_I (in_b 0), tp_I (in_b 0), ?_, rfl, rfl⟩
  have z : ∀ b, 0 < b → ∀ j, in_b 0 j < b := fun b hb j => by unfold in_b; rw [if_neg (by omega)]; exact hb
  refine ⟨by omega, z _ (by omega), z _ (by omega), z _ (by omega), z _ (by omega), z _ (by omega), z _ (by omega), z _ (by omega), fun j => ?_, z _ (by omega)⟩
  unfold in_b
  exact bx_ite (by omega) (by omega)
theorem i_vc_edges {k : Nat} {u : SX} {v : SY} (I : i_Rel k u v) (hk : k + 5 ≤ 2560) : wpX_edges (fun r => wpY_edges (fun r' => r' = r ∧ i_Rel (k + 5) u v) v) u := by
  obtain ⟨c, pr, so, ta, rs, sg, le, gr, bd, ur, n, n', fd, ft, us, fd', ft', us', G, rfl, rfl⟩ := I
  exact ⟨rfl, c, pr, so, ta, rs, sg, le, gr, bd, ur, n, n', fd, ft, us, fd', ft', us', G, rfl, rfl⟩
theorem i_vc_bound {k : Nat} {u : SX} {v : SY} (I : i_Rel k u v) (hk : k + 5 ≤ 2560) (v1 : Int32) (v2 : Int32) (v3 : Int32) : wpX_bound (fun r u' => wpY_bound (fun r' v' => r' = r ∧ i_Rel (k + 5) u' v') v v1 v2 v3) u v1 v2 v3 := by
  obtain ⟨c, pr, so, ta, rs, sg, le, gr, bd, ur, n, n', fd, ft, us, fd', ft', us', G, rfl, rfl⟩ := I
  have same : i_Rel (k + 5) (xs_S c pr so ta rs sg le gr bd ur n fd ft us) (ys_S c pr so ta rs sg le gr bd ur n' fd' ft' us') := ⟨c, pr, so, ta, rs, sg, le, gr, bd, ur, n, n', fd, ft, us, fd', ft', us', G, rfl, rfl⟩
  have Y0 : ¬ (vr_N v1 8 ∧ vr_N v2 2 ∧ vr_N v3 8) → wpY_bound (fun r' v' => r' = -1 ∧ i_Rel (k + 5) (xs_S c pr so ta rs sg le gr bd ur n fd ft us) v') (ys_S c pr so ta rs sg le gr bd ur n' fd' ft' us') v1 v2 v3 := fun h =>
    vr_lt 7 (fun _ => ⟨rfl, same⟩) (fun a => vr_lt 1 (fun _ => ⟨rfl, same⟩) (fun b => vr_le 7 (fun _ => ⟨rfl, same⟩) (fun d => absurd ⟨a, b, d⟩ h)))
  unfold wpX_bound
  dsimp only
  refine xm_isPlace (fun a => br_f (by decide) ?_) (fun a => br_t rfl (Y0 (fun h => a h.1)))
  refine xm_isBit (fun b => br_f (by decide) ?_) (fun b => br_t rfl (Y0 (fun h => b h.2.1)))
  refine xm_isVU (fun d => br_f (by decide) ?_) (fun d => br_t rfl (Y0 (fun h => d h.2.2)))
  have aa := a
  have bb := b
  have dd := d
  obtain ⟨a, ha, rfl⟩ := a
  obtain ⟨b, hb, rfl⟩ := b
  obtain ⟨d, hd, rfl⟩ := d
  rw [bx_2, nI_clamp (by omega)]
  have vi : vp_in (nI (2 * a + b)) 16 := vp_in_nI (by omega) (by omega)
  refine ⟨vi, nm_e ⟨vi, nm_r (tp_I_up bd _ _) ?_⟩⟩
  refine vr_lt 7 (fun h => absurd aa h) (fun _ => vr_lt 1 (fun h => absurd bb h) (fun _ => vr_le 7 (fun h => absurd dd h) (fun _ => ?_)))
  rw [bx_2, nI_clamp (by omega)]
  refine ⟨vi, nm_e ⟨vi, nm_r (tp_I_up bd _ _) ⟨rfl, c, pr, so, ta, rs, sg, le, gr, rc_up bd (2 * a + b) d, ur, n, n', fd, ft, us, fd', ft', us', ?_, rfl, rfl⟩⟩⟩
  obtain ⟨g1, g2, g3, g4, g5, g6, g7, g8, g9, g10⟩ := G
  exact ⟨g1, g2, g3, g4, g5, g6, g7, g8, rc_up_lt g9 hd, g10⟩
theorem i_vc_urgent {k : Nat} {u : SX} {v : SY} (I : i_Rel k u v) (hk : k + 5 ≤ 2560) (v1 : Int32) (v2 : Int32) : wpX_urgent (fun r u' => wpY_urgent (fun r' v' => r' = r ∧ i_Rel (k + 5) u' v') v v1 v2) u v1 v2 := by
  obtain ⟨c, pr, so, ta, rs, sg, le, gr, bd, ur, n, n', fd, ft, us, fd', ft', us', G, rfl, rfl⟩ := I
  have same : i_Rel (k + 5) (xs_S c pr so ta rs sg le gr bd ur n fd ft us) (ys_S c pr so ta rs sg le gr bd ur n' fd' ft' us') := ⟨c, pr, so, ta, rs, sg, le, gr, bd, ur, n, n', fd, ft, us, fd', ft', us', G, rfl, rfl⟩
  unfold wpX_urgent
  dsimp only
  refine xm_isPlace (fun a => br_f (by decide) ?_) (fun a => br_t rfl (vr_le 7 (fun _ => ⟨rfl, same⟩) (fun h => absurd h a)))
  have aa := a
  obtain ⟨a, ha, rfl⟩ := a
  have vi : vp_in (nI a) 8 := vp_in_nI ha (by omega)
  have cl : (nI a).toNatClampNeg = a := nI_clamp (by omega)
  have fin : ∀ z, z < 2 → i_Rel (k + 5) (xs_S c pr so ta rs sg le gr bd (rc_up ur a z) n fd ft us) (ys_S c pr so ta rs sg le gr bd (rc_up ur a z) n' fd' ft' us') := by
    intro z hz
    refine ⟨c, pr, so, ta, rs, sg, le, gr, bd, rc_up ur a z, n, n', fd, ft, us, fd', ft', us', ?_, rfl, rfl⟩
    obtain ⟨g1, g2, g3, g4, g5, g6, g7, g8, g9, g10⟩ := G
    exact ⟨g1, g2, g3, g4, g5, g6, g7, g8, g9, rc_up_lt g10 hz⟩
  have u0 : upd (tp_I ur) (nI a).toNatClampNeg (vp_nar .boolean 0) = tp_I (rc_up ur a 0) := by rw [cl, bo_0]; exact tp_I_up ur a 0
  have u1 : upd (tp_I ur) (nI a).toNatClampNeg (vp_nar .boolean 1) = tp_I (rc_up ur a 1) := by rw [cl, bo_1]; exact tp_I_up ur a 1
  have X : ∀ (r : Int32) (post : Int32 → SX → Prop), (∀ z, z < 2 → (z = 0 ↔ v2 = 0) → post r (xs_S c pr so ta rs sg le gr bd (rc_up ur a z) n fd ft us)) → wX_urgent_24 post (nI a) v2 r (nI c) n (tp_I pr) (tp_I so) (tp_I ta) (tp_I rs) (tp_I sg) (tp_I le) (tp_I gr) (tp_I bd) (tp_I ur) fd ft us := by
    intro r post p
    refine br_c (fun z => ⟨vi, nm_r u0 (p 0 (by omega) ⟨fun _ => z, fun _ => rfl⟩)⟩) (fun z => ⟨vi, nm_r u1 (p 1 (by omega) ⟨fun h => absurd h (by omega), fun h => absurd h z⟩)⟩)
  have Y : ∀ (r : Int32) (post : Int32 → SY → Prop), (∀ z, z < 2 → (z = 0 ↔ v2 = 0) → post r (ys_S c pr so ta rs sg le gr bd (rc_up ur a z) n' fd' ft' us')) → wY_urgent_26 post (nI a) v2 r (nI c) n' (tp_I pr) (tp_I so) (tp_I ta) (tp_I rs) (tp_I sg) (tp_I le) (tp_I gr) (tp_I bd) (tp_I ur) ft' fd' us' := by
    intro r post p
    refine br_c (fun z => ⟨vi, nm_r u0 (p 0 (by omega) ⟨fun _ => z, fun _ => rfl⟩)⟩) (fun z => ⟨vi, nm_r u1 (p 1 (by omega) ⟨fun h => absurd h (by omega), fun h => absurd h z⟩)⟩)
  have one : ∀ z w : Nat, z < 2 → w < 2 → (z = 0 ↔ v2 = 0) → (w = 0 ↔ v2 = 0) → w = z := by
    intro z w hz hw h1 h2
    by_cases q : v2 = 0
    · rw [h1.mpr q, h2.mpr q]
    · have q1 : ¬ z = 0 := fun e => q (h1.mp e)
      have q2 : ¬ w = 0 := fun e => q (h2.mp e)
      omega
  refine ⟨vi, br_c (fun s => X 0 _ ?_) (fun s => X 1 _ ?_)⟩
  · intro z hz ez
    refine vr_le 7 (fun h => absurd aa h) (fun _ => ⟨vi, br_t s (Y 0 _ (fun w hw ew => ⟨rfl, ?_⟩))⟩)
    rw [one z w hz hw ez ew]; exact fin z hz
  · intro z hz ez
    refine vr_le 7 (fun h => absurd aa h) (fun _ => ⟨vi, br_f s (Y 1 _ (fun w hw ew => ⟨rfl, ?_⟩))⟩)
    rw [one z w hz hw ez ew]; exact fin z hz
theorem i_vc_guard {k : Nat} {u : SX} {v : SY} (I : i_Rel k u v) (hk : k + 5 ≤ 2560) (v1 : Int32) (v2 : Int32) (v3 : Int32) (v4 : Int32) : wpX_guard (fun r u' => wpY_guard (fun r' v' => r' = r ∧ i_Rel (k + 5) u' v') v v1 v2 v3 v4) u v1 v2 v3 v4 := by
  obtain ⟨c, pr, so, ta, rs, sg, le, gr, bd, ur, n, n', fd, ft, us, fd', ft', us', G, rfl, rfl⟩ := I
  have c12 := G.1
  have same : i_Rel (k + 5) (xs_S c pr so ta rs sg le gr bd ur n fd ft us) (ys_S c pr so ta rs sg le gr bd ur n' fd' ft' us') := ⟨c, pr, so, ta, rs, sg, le, gr, bd, ur, n, n', fd, ft, us, fd', ft', us', G, rfl, rfl⟩
  have Y0 : vr_N v1 c → ¬ (vr_N v2 2 ∧ vr_N v3 7 ∧ vr_N v4 8) → wpY_guard (fun r' v' => r' = -1 ∧ i_Rel (k + 5) (xs_S c pr so ta rs sg le gr bd ur n fd ft us) v') (ys_S c pr so ta rs sg le gr bd ur n' fd' ft' us') v1 v2 v3 v4 := by
    intro e h
    unfold wpY_guard
    exact ym_isEdge G (fun _ => br_f (by decide) (vr_lt 1 (fun _ => ⟨rfl, same⟩) (fun a => vr_lt 6 (fun _ => ⟨rfl, same⟩) (fun b => vr_le 7 (fun _ => ⟨rfl, same⟩) (fun d => absurd ⟨a, b, d⟩ h))))) (fun h => absurd e h)
  unfold wpX_guard
  dsimp only
  refine xm_isEdge G (fun e => br_f (by decide) ?_) (fun e => br_t rfl ?_)
  rotate_left
  · unfold wpY_guard
    exact ym_isEdge G (fun h => absurd h e) (fun _ => br_t rfl ⟨rfl, same⟩)
  refine xm_isBit (fun a => br_f (by decide) ?_) (fun a => br_t rfl (Y0 e (fun h => a h.1)))
  refine xm_isValue (fun b => br_f (by decide) ?_) (fun b => br_t rfl (Y0 e (fun h => b h.2.1)))
  refine xm_isVU (fun d => br_f (by decide) ?_) (fun d => br_t rfl (Y0 e (fun h => d h.2.2)))
  have ee := e
  have aa := a
  have bb := b
  have dd := d
  obtain ⟨e, he, rfl⟩ := e
  obtain ⟨a, ha, rfl⟩ := a
  obtain ⟨b, hb, rfl⟩ := b
  obtain ⟨d, hd, rfl⟩ := d
  rw [bx_2, nI_clamp (by omega)]
  have vi : vp_in (nI (2 * e + a)) 24 := vp_in_nI (by omega) (by omega)
  refine ⟨vi, nm_r (tp_I_up le _ _) ⟨vi, nm_r (tp_I_up gr _ _) ?_⟩⟩
  unfold wpY_guard
  refine ym_isEdge G (fun _ => br_f (by decide) (vr_lt 1 (fun h => absurd aa h) (fun _ => vr_lt 6 (fun h => absurd bb h) (fun _ => vr_le 7 (fun h => absurd dd h) (fun _ => ?_))))) (fun h => absurd ee h)
  rw [bx_2, nI_clamp (by omega)]
  refine ⟨vi, nm_r (tp_I_up le _ _) ⟨vi, nm_r (tp_I_up gr _ _) ⟨rfl, c, pr, so, ta, rs, sg, rc_up le (2 * e + a) b, rc_up gr (2 * e + a) d, bd, ur, n, n', fd, ft, us, fd', ft', us', ?_, rfl, rfl⟩⟩⟩
  obtain ⟨g1, g2, g3, g4, g5, g6, g7, g8, g9, g10⟩ := G
  exact ⟨g1, g2, g3, g4, g5, g6, rc_up_lt g7 hb, rc_up_lt g8 hd, g9, g10⟩
