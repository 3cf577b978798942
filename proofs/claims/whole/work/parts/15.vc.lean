/-! the questions -/
theorem i_vc_reached {k : Nat} {u : SX} {v : SY} (I : i_Rel k u v) (hk : k + 5 ≤ 2560) (v1 : Int32) : wpX_reached (fun r u' => wpY_reached (fun r' v' => r' = r ∧ i_Rel (k + 5) u' v') v v1) u v1 := by
  obtain ⟨c, pr, so, ta, rs, sg, le, gr, bd, ur, n0, n1, fd0, ft0, us0, fd1, ft1, us1, G, rfl, rfl⟩ := I
  have same : i_Rel (k + 5) (xs_S c pr so ta rs sg le gr bd ur n0 fd0 ft0 us0) (ys_S c pr so ta rs sg le gr bd ur n1 fd1 ft1 us1) := ⟨c, pr, so, ta, rs, sg, le, gr, bd, ur, n0, n1, fd0, ft0, us0, fd1, ft1, us1, G, rfl, rfl⟩
  unfold wpX_reached
  dsimp only
  refine xm_isPair (fun a => br_f (by decide) ?_) (fun a => br_t rfl ?_)
  rotate_left
  · unfold wpY_reached
    exact ym_badPair (fun h => absurd h a) (fun _ => br_f (by decide) ⟨rfl, same⟩)
  have aa := a
  obtain ⟨a, ha, rfl⟩ := a
  refine xe_explore G ?_
  intro lo n F T U fc fd ft us A O Fi
  have hT : ∀ s, s < 1024 → T s ≤ 21 := fun s hs => rc_T21 O hs
  obtain ⟨v, M⟩ := qa_ex hT a
  have v21 := qa_le M
  have Y : ∀ r : Int32, (v = 21 → (0 : Int32) = r) → (v ≠ 21 → (1 : Int32) = r) → wpY_reached (fun r' v' => r' = r ∧ i_Rel (k + 5) (xs_S c pr so ta rs sg le gr bd ur fc fd ft us) v') (ys_S c pr so ta rs sg le gr bd ur n1 fd1 ft1 us1) (nI a) := by
    intro r h0 h1
    unfold wpY_reached
    refine ym_badPair (fun _ => br_t rfl ?_) (fun h => absurd aa h)
    refine ye_work G ?_
    intro lo' n' F' T' U' fc' fd' ft' us' A' O' Fi'
    have E := (qa_same G Fi Fi').1
    refine qa_yl A' E hT ha M ?_
    have rel : i_Rel (k + 5) (xs_S c pr so ta rs sg le gr bd ur fc fd ft us) (ys_S c pr so ta rs sg le gr bd ur fc' fd' ft' us') := ⟨c, pr, so, ta, rs, sg, le, gr, bd, ur, fc, fc', fd, ft, us, fd', ft', us', G, rfl, rfl⟩
    exact pk_le 21 v (fun z => ⟨h0 (by omega), rel⟩) (fun z => ⟨h1 (by omega), rel⟩)
  refine qa_xl A O ha M ?_
  by_cases z : v = 21
  · exact br_t (by rw [z]; rfl) (Y 0 (fun _ => rfl) (fun h => absurd z h))
  · exact br_f (rc_kx_t _ (by omega)) (Y 1 (fun h => absurd h z) (fun _ => rfl))
theorem i_vc_earliest {k : Nat} {u : SX} {v : SY} (I : i_Rel k u v) (hk : k + 5 ≤ 2560) (v1 : Int32) : wpX_earliest (fun r u' => wpY_earliest (fun r' v' => r' = r ∧ i_Rel (k + 5) u' v') v v1) u v1 := by
  obtain ⟨c, pr, so, ta, rs, sg, le, gr, bd, ur, n0, n1, fd0, ft0, us0, fd1, ft1, us1, G, rfl, rfl⟩ := I
  have same : i_Rel (k + 5) (xs_S c pr so ta rs sg le gr bd ur n0 fd0 ft0 us0) (ys_S c pr so ta rs sg le gr bd ur n1 fd1 ft1 us1) := ⟨c, pr, so, ta, rs, sg, le, gr, bd, ur, n0, n1, fd0, ft0, us0, fd1, ft1, us1, G, rfl, rfl⟩
  unfold wpX_earliest
  dsimp only
  refine xm_isPair (fun a => br_f (by decide) ?_) (fun a => br_t rfl ?_)
  rotate_left
  · unfold wpY_earliest
    exact ym_badPair (fun h => absurd h a) (fun _ => br_f (by decide) ⟨rfl, same⟩)
  have aa := a
  obtain ⟨a, ha, rfl⟩ := a
  refine xe_explore G ?_
  intro lo n F T U fc fd ft us A O Fi
  have hT : ∀ s, s < 1024 → T s ≤ 21 := fun s hs => rc_T21 O hs
  obtain ⟨v, M⟩ := qa_ex hT a
  have v21 := qa_le M
  refine qa_xl A O ha M ?_
  unfold wpY_earliest
  refine ym_badPair (fun _ => br_t rfl ?_) (fun h => absurd aa h)
  refine ye_work G ?_
  intro lo' n' F' T' U' fc' fd' ft' us' A' O' Fi'
  have E := (qa_same G Fi Fi').1
  refine qa_yl A' E hT ha M ?_
  have rel : i_Rel (k + 5) (xs_S c pr so ta rs sg le gr bd ur fc fd ft us) (ys_S c pr so ta rs sg le gr bd ur fc' fd' ft' us') := ⟨c, pr, so, ta, rs, sg, le, gr, bd, ur, fc, fc', fd, ft, us, fd', ft', us', G, rfl, rfl⟩
  exact pk_le 21 v (fun z => ⟨by rw [show v = 21 from by omega]; rfl, rel⟩) (fun z => ⟨(rc_kx_v (by omega)).symm, rel⟩)
theorem i_vc_atMost {k : Nat} {u : SX} {v : SY} (I : i_Rel k u v) (hk : k + 5 ≤ 2560) (v1 : Int32) (v2 : Int32) (v3 : Int32) : wpX_atMost (fun r u' => wpY_atMost (fun r' v' => r' = r ∧ i_Rel (k + 5) u' v') v v1 v2 v3) u v1 v2 v3 := by
  obtain ⟨c, pr, so, ta, rs, sg, le, gr, bd, ur, n0, n1, fd0, ft0, us0, fd1, ft1, us1, G, rfl, rfl⟩ := I
  have same : i_Rel (k + 5) (xs_S c pr so ta rs sg le gr bd ur n0 fd0 ft0 us0) (ys_S c pr so ta rs sg le gr bd ur n1 fd1 ft1 us1) := ⟨c, pr, so, ta, rs, sg, le, gr, bd, ur, n0, n1, fd0, ft0, us0, fd1, ft1, us1, G, rfl, rfl⟩
  have Y0 : ¬ (vr_N v1 16 ∧ vr_N v2 2 ∧ vr_N v3 7) → wpY_atMost (fun r' v' => r' = -1 ∧ i_Rel (k + 5) (xs_S c pr so ta rs sg le gr bd ur n0 fd0 ft0 us0) v') (ys_S c pr so ta rs sg le gr bd ur n1 fd1 ft1 us1) v1 v2 v3 := by
    intro h
    unfold wpY_atMost
    exact ym_badPair (fun a => br_t rfl (vr_lt 1 (fun _ => ⟨rfl, same⟩) (fun b => vr_le 6 (fun _ => ⟨rfl, same⟩) (fun d => absurd ⟨a, b, d⟩ h)))) (fun _ => br_f (by decide) ⟨rfl, same⟩)
  unfold wpX_atMost
  dsimp only
  refine xm_isPair (fun a => br_f (by decide) ?_) (fun a => br_t rfl (Y0 (fun h => a h.1)))
  refine xm_isBit (fun b => br_f (by decide) ?_) (fun b => br_t rfl (Y0 (fun h => b h.2.1)))
  refine xm_isValue (fun d => br_f (by decide) ?_) (fun d => br_t rfl (Y0 (fun h => d h.2.2)))
  have aa := a
  have bb := b
  have dd := d
  obtain ⟨a, ha, rfl⟩ := a
  obtain ⟨b, hb, rfl⟩ := b
  obtain ⟨d, hd, rfl⟩ := d
  refine xe_explore G ?_
  intro lo n F T U fc fd ft us A O Fi
  have hT : ∀ s, s < 1024 → T s ≤ 21 := fun s hs => rc_T21 O hs
  have Y : ∀ r : Int32, (qa_hb T a b 0 d → (1 : Int32) = r) → (¬ qa_hb T a b 0 d → (0 : Int32) = r) → wpY_atMost (fun r' v' => r' = r ∧ i_Rel (k + 5) (xs_S c pr so ta rs sg le gr bd ur fc fd ft us) v') (ys_S c pr so ta rs sg le gr bd ur n1 fd1 ft1 us1) (nI a) (nI b) (nI d) := by
    intro r h1 h0
    unfold wpY_atMost
    refine ym_badPair (fun _ => br_t rfl (vr_lt 1 (fun h => absurd bb h) (fun _ => vr_le 6 (fun h => absurd dd h) (fun _ => ?_)))) (fun h => absurd aa h)
    refine ye_work G ?_
    intro lo' n' F' T' U' fc' fd' ft' us' A' O' Fi'
    have E := (qa_same G Fi Fi').1
    have rel : i_Rel (k + 5) (xs_S c pr so ta rs sg le gr bd ur fc fd ft us) (ys_S c pr so ta rs sg le gr bd ur fc' fd' ft' us') := ⟨c, pr, so, ta, rs, sg, le, gr, bd, ur, fc, fc', fd, ft, us, fd', ft', us', G, rfl, rfl⟩
    refine nm_r (show (64 : Int32) * nI a = nI (64 * a) from by rw [show (64 : Int32) = nI 64 from rfl, pk_mul]) ⟨64 + 1, ?_⟩
    exact qa_ym39 A' E hT ha hb hd (fun q => ⟨h1 q, rel⟩) (fun q => ⟨h0 q, rel⟩) (64 + 1) (64 * a) (by omega) (by omega) (by omega) (fun q h1 h2 => absurd h1 (by omega))
  exact qa_xh (low := 0) (high := d) A O ha hb (by omega) (by omega) (fun q => br_f (by decide) (Y 1 (fun _ => rfl) (fun h => absurd q h))) (fun q => br_t rfl (Y 0 (fun h => absurd h q) (fun _ => rfl)))
theorem i_vc_atLeast {k : Nat} {u : SX} {v : SY} (I : i_Rel k u v) (hk : k + 5 ≤ 2560) (v1 : Int32) (v2 : Int32) (v3 : Int32) : wpX_atLeast (fun r u' => wpY_atLeast (fun r' v' => r' = r ∧ i_Rel (k + 5) u' v') v v1 v2 v3) u v1 v2 v3 := by
  obtain ⟨c, pr, so, ta, rs, sg, le, gr, bd, ur, n0, n1, fd0, ft0, us0, fd1, ft1, us1, G, rfl, rfl⟩ := I
  have same : i_Rel (k + 5) (xs_S c pr so ta rs sg le gr bd ur n0 fd0 ft0 us0) (ys_S c pr so ta rs sg le gr bd ur n1 fd1 ft1 us1) := ⟨c, pr, so, ta, rs, sg, le, gr, bd, ur, n0, n1, fd0, ft0, us0, fd1, ft1, us1, G, rfl, rfl⟩
  have Y0 : ¬ (vr_N v1 16 ∧ vr_N v2 2 ∧ vr_N v3 7) → wpY_atLeast (fun r' v' => r' = -1 ∧ i_Rel (k + 5) (xs_S c pr so ta rs sg le gr bd ur n0 fd0 ft0 us0) v') (ys_S c pr so ta rs sg le gr bd ur n1 fd1 ft1 us1) v1 v2 v3 := by
    intro h
    unfold wpY_atLeast
    exact ym_badPair (fun a => br_t rfl (vr_lt 1 (fun _ => ⟨rfl, same⟩) (fun b => vr_le 6 (fun _ => ⟨rfl, same⟩) (fun d => absurd ⟨a, b, d⟩ h)))) (fun _ => br_f (by decide) ⟨rfl, same⟩)
  unfold wpX_atLeast
  dsimp only
  refine xm_isPair (fun a => br_f (by decide) ?_) (fun a => br_t rfl (Y0 (fun h => a h.1)))
  refine xm_isBit (fun b => br_f (by decide) ?_) (fun b => br_t rfl (Y0 (fun h => b h.2.1)))
  refine xm_isValue (fun d => br_f (by decide) ?_) (fun d => br_t rfl (Y0 (fun h => d h.2.2)))
  have aa := a
  have bb := b
  have dd := d
  obtain ⟨a, ha, rfl⟩ := a
  obtain ⟨b, hb, rfl⟩ := b
  obtain ⟨d, hd, rfl⟩ := d
  refine xe_explore G ?_
  intro lo n F T U fc fd ft us A O Fi
  have hT : ∀ s, s < 1024 → T s ≤ 21 := fun s hs => rc_T21 O hs
  have Y : ∀ r : Int32, (qa_hb T a b d 7 → (1 : Int32) = r) → (¬ qa_hb T a b d 7 → (0 : Int32) = r) → wpY_atLeast (fun r' v' => r' = r ∧ i_Rel (k + 5) (xs_S c pr so ta rs sg le gr bd ur fc fd ft us) v') (ys_S c pr so ta rs sg le gr bd ur n1 fd1 ft1 us1) (nI a) (nI b) (nI d) := by
    intro r h1 h0
    unfold wpY_atLeast
    refine ym_badPair (fun _ => br_t rfl (vr_lt 1 (fun h => absurd bb h) (fun _ => vr_le 6 (fun h => absurd dd h) (fun _ => ?_)))) (fun h => absurd aa h)
    refine ye_work G ?_
    intro lo' n' F' T' U' fc' fd' ft' us' A' O' Fi'
    have E := (qa_same G Fi Fi').1
    have rel : i_Rel (k + 5) (xs_S c pr so ta rs sg le gr bd ur fc fd ft us) (ys_S c pr so ta rs sg le gr bd ur fc' fd' ft' us') := ⟨c, pr, so, ta, rs, sg, le, gr, bd, ur, fc, fc', fd, ft, us, fd', ft', us', G, rfl, rfl⟩
    refine nm_r (show (64 : Int32) * nI a = nI (64 * a) from by rw [show (64 : Int32) = nI 64 from rfl, pk_mul]) ⟨64 + 1, ?_⟩
    exact qa_yk39 A' E hT ha hb hd (fun q => ⟨h1 q, rel⟩) (fun q => ⟨h0 q, rel⟩) (64 + 1) (64 * a) (by omega) (by omega) (by omega) (fun q h1 h2 => absurd h1 (by omega))
  exact qa_xh (low := d) (high := 7) A O ha hb (by omega) (by omega) (fun q => br_f (by decide) (Y 1 (fun _ => rfl) (fun h => absurd q h))) (fun q => br_t rfl (Y 0 (fun h => absurd h q) (fun _ => rfl)))
theorem i_vc_pairs {k : Nat} {u : SX} {v : SY} (I : i_Rel k u v) (hk : k + 5 ≤ 2560) : wpX_pairs (fun r u' => wpY_pairs (fun r' v' => r' = r ∧ i_Rel (k + 5) u' v') v) u := by
  obtain ⟨c, pr, so, ta, rs, sg, le, gr, bd, ur, n0, n1, fd0, ft0, us0, fd1, ft1, us1, G, rfl, rfl⟩ := I
  unfold wpX_pairs
  dsimp only
  refine xe_explore G ?_
  intro lo n F T U fc fd ft us A O Fi
  have hT : ∀ s, s < 1024 → T s ≤ 21 := fun s hs => rc_T21 O hs
  obtain ⟨f, M⟩ : ∃ f : Nat → Nat, ∀ a, qa_mn T a (f a) := ⟨fun a => Classical.choose (qa_ex hT a), fun a => Classical.choose_spec (qa_ex hT a)⟩
  refine ⟨16 + 1, qa_xp A O M ?_ (16 + 1) 0 (by omega) (by omega)⟩
  unfold wpY_pairs
  dsimp only
  refine ye_work G ?_
  intro lo' n' F' T' U' fc' fd' ft' us' A' O' Fi'
  have E := (qa_same G Fi Fi').1
  have rel : i_Rel (k + 5) (xs_S c pr so ta rs sg le gr bd ur fc fd ft us) (ys_S c pr so ta rs sg le gr bd ur fc' fd' ft' us') := ⟨c, pr, so, ta, rs, sg, le, gr, bd, ur, fc, fc', fd, ft, us, fd', ft', us', G, rfl, rfl⟩
  exact ⟨16 + 1, qa_yp A' E hT M ⟨rfl, rel⟩ (16 + 1) 0 (by omega) (by omega)⟩
theorem i_vc_locations {k : Nat} {u : SX} {v : SY} (I : i_Rel k u v) (hk : k + 5 ≤ 2560) (v1 : Int32) : wpX_locations (fun r u' => wpY_locations (fun r' v' => r' = r ∧ i_Rel (k + 5) u' v') v v1) u v1 := by
  obtain ⟨c, pr, so, ta, rs, sg, le, gr, bd, ur, n0, n1, fd0, ft0, us0, fd1, ft1, us1, G, rfl, rfl⟩ := I
  have same : i_Rel (k + 5) (xs_S c pr so ta rs sg le gr bd ur n0 fd0 ft0 us0) (ys_S c pr so ta rs sg le gr bd ur n1 fd1 ft1 us1) := ⟨c, pr, so, ta, rs, sg, le, gr, bd, ur, n0, n1, fd0, ft0, us0, fd1, ft1, us1, G, rfl, rfl⟩
  unfold wpX_locations
  dsimp only
  refine xm_isBit (fun a => br_f (by decide) ?_) (fun a => br_t rfl (vr_le 1 (fun _ => ⟨rfl, same⟩) (fun h => absurd h a)))
  have aa := a
  obtain ⟨a, ha, rfl⟩ := a
  refine xe_explore G ?_
  intro lo n F T U fc fd ft us A O Fi
  have hT : ∀ s, s < 1024 → T s ≤ 21 := fun s hs => rc_T21 O hs
  obtain ⟨f, M⟩ : ∃ f : Nat → Nat, ∀ a, qa_mn T a (f a) := ⟨fun a => Classical.choose (qa_ex hT a), fun a => Classical.choose_spec (qa_ex hT a)⟩
  refine ⟨n + 1, qa_xo A O ha ?_ (n + 1) 0 0 (by omega) (by omega) (by omega) (fun l hl => ?_)⟩
  · intro m L
    refine vr_le 1 (fun h => absurd aa h) (fun _ => ?_)
    refine ye_work G ?_
    intro lo' n' F' T' U' fc' fd' ft' us' A' O' Fi'
    have E := (qa_same G Fi Fi').1
    have rel : i_Rel (k + 5) (xs_S c pr so ta rs sg le gr bd ur fc fd ft us) (ys_S c pr so ta rs sg le gr bd ur fc' fd' ft' us') := ⟨c, pr, so, ta, rs, sg, le, gr, bd, ur, fc, fc', fd, ft, us, fd', ft', us', G, rfl, rfl⟩
    refine ⟨16 + 1, qa_yo A' E hT M ha ?_ (16 + 1) 0 0 (by omega) (by omega) (by omega) (fun l hl => ?_)⟩
    · intro m' L'
      exact ⟨by rw [qa_L_uni L L'], rel⟩
    · rw [Nat.zero_testBit]
      exact ⟨fun h => absurd h (by decide), fun ⟨j, hj, _⟩ => absurd hj (by omega)⟩
  · rw [Nat.zero_testBit]
    exact ⟨fun h => absurd h (by decide), fun ⟨j, hj, _⟩ => absurd hj (by omega)⟩
theorem i_vc_usable {k : Nat} {u : SX} {v : SY} (I : i_Rel k u v) (hk : k + 5 ≤ 2560) (v1 : Int32) : wpX_usable (fun r u' => wpY_usable (fun r' v' => r' = r ∧ i_Rel (k + 5) u' v') v v1) u v1 := by
  obtain ⟨c, pr, so, ta, rs, sg, le, gr, bd, ur, n0, n1, fd0, ft0, us0, fd1, ft1, us1, G, rfl, rfl⟩ := I
  have c12 := G.1
  have same : i_Rel (k + 5) (xs_S c pr so ta rs sg le gr bd ur n0 fd0 ft0 us0) (ys_S c pr so ta rs sg le gr bd ur n1 fd1 ft1 us1) := ⟨c, pr, so, ta, rs, sg, le, gr, bd, ur, n0, n1, fd0, ft0, us0, fd1, ft1, us1, G, rfl, rfl⟩
  unfold wpX_usable
  dsimp only
  refine xm_isEdge G (fun a => br_f (by decide) ?_) (fun a => br_t rfl ?_)
  rotate_left
  · unfold wpY_usable
    exact ym_isEdge G (fun h => absurd h a) (fun _ => br_t rfl ⟨rfl, same⟩)
  have aa := a
  obtain ⟨a, ha, rfl⟩ := a
  have ha' : a < 12 := by omega
  rw [nI_clamp (show a < 2 ^ 31 by omega)]
  refine xe_explore G ?_
  intro lo n F T U fc fd ft us A O Fi
  have u21 := rc_U21 O a
  have Y : ∀ r : Int32, (U a = 21 → (0 : Int32) = r) → (U a ≠ 21 → (1 : Int32) = r) → wpY_usable (fun r' v' => r' = r ∧ i_Rel (k + 5) (xs_S c pr so ta rs sg le gr bd ur fc fd ft us) v') (ys_S c pr so ta rs sg le gr bd ur n1 fd1 ft1 us1) (nI a) := by
    intro r h0 h1
    unfold wpY_usable
    dsimp only
    rw [nI_clamp (show a < 2 ^ 31 by omega)]
    refine ym_isEdge G (fun _ => br_f (by decide) ?_) (fun h => absurd aa h)
    refine ye_work G ?_
    intro lo' n' F' T' U' fc' fd' ft' us' A' O' Fi'
    have E := (qa_same G Fi Fi').2 a
    have rel : i_Rel (k + 5) (xs_S c pr so ta rs sg le gr bd ur fc fd ft us) (ys_S c pr so ta rs sg le gr bd ur fc' fd' ft' us') := ⟨c, pr, so, ta, rs, sg, le, gr, bd, ur, fc, fc', fd, ft, us, fd', ft', us', G, rfl, rfl⟩
    have e : us' a = nI (U a) := by rw [A'.2.2.2 a ha', E]; rfl
    exact ⟨vp_in_nI ha' (by omega), pk_le 21 (U a) (fun z => ⟨h0 (by omega), rel⟩) (fun z => ⟨h1 (by omega), rel⟩) rfl e⟩
  refine ⟨vp_in_nI ha' (by omega), ?_⟩
  have e : us a = rc_kx (U a) := A.2.2.2 a ha'
  by_cases z : U a = 21
  · exact br_t (by rw [z] at e; exact e) (Y 0 (fun _ => rfl) (fun h => absurd z h))
  · exact br_f (fun h => rc_kx_t _ (by omega) (e.symm.trans h)) (Y 1 (fun h => absurd h z) (fun _ => rfl))
theorem i_vc_firstUse {k : Nat} {u : SX} {v : SY} (I : i_Rel k u v) (hk : k + 5 ≤ 2560) (v1 : Int32) : wpX_firstUse (fun r u' => wpY_firstUse (fun r' v' => r' = r ∧ i_Rel (k + 5) u' v') v v1) u v1 := by
  obtain ⟨c, pr, so, ta, rs, sg, le, gr, bd, ur, n0, n1, fd0, ft0, us0, fd1, ft1, us1, G, rfl, rfl⟩ := I
  have c12 := G.1
  have same : i_Rel (k + 5) (xs_S c pr so ta rs sg le gr bd ur n0 fd0 ft0 us0) (ys_S c pr so ta rs sg le gr bd ur n1 fd1 ft1 us1) := ⟨c, pr, so, ta, rs, sg, le, gr, bd, ur, n0, n1, fd0, ft0, us0, fd1, ft1, us1, G, rfl, rfl⟩
  unfold wpX_firstUse
  dsimp only
  refine xm_isEdge G (fun a => br_f (by decide) ?_) (fun a => br_t rfl ?_)
  rotate_left
  · unfold wpY_firstUse
    exact ym_isEdge G (fun h => absurd h a) (fun _ => br_t rfl ⟨rfl, same⟩)
  have aa := a
  obtain ⟨a, ha, rfl⟩ := a
  have ha' : a < 12 := by omega
  rw [nI_clamp (show a < 2 ^ 31 by omega)]
  refine xe_explore G ?_
  intro lo n F T U fc fd ft us A O Fi
  have u21 := rc_U21 O a
  have ex : us a = rc_kx (U a) := A.2.2.2 a ha'
  refine ⟨vp_in_nI ha' (by omega), ?_⟩
  unfold wpY_firstUse
  dsimp only
  rw [nI_clamp (show a < 2 ^ 31 by omega)]
  refine ym_isEdge G (fun _ => br_f (by decide) ?_) (fun h => absurd aa h)
  refine ye_work G ?_
  intro lo' n' F' T' U' fc' fd' ft' us' A' O' Fi'
  have E := (qa_same G Fi Fi').2 a
  have rel : i_Rel (k + 5) (xs_S c pr so ta rs sg le gr bd ur fc fd ft us) (ys_S c pr so ta rs sg le gr bd ur fc' fd' ft' us') := ⟨c, pr, so, ta, rs, sg, le, gr, bd, ur, fc, fc', fd, ft, us, fd', ft', us', G, rfl, rfl⟩
  have e : us' a = nI (U a) := by rw [A'.2.2.2 a ha', E]; rfl
  refine ⟨vp_in_nI ha' (by omega), pk_le 21 (U a) (fun z => ⟨?_, rel⟩) (fun z => ⟨vp_in_nI ha' (by omega), ?_, rel⟩) rfl e⟩
  · refine Eq.trans ?_ ex.symm
    rw [show U a = 21 from by omega]; rfl
  · refine Eq.trans e (Eq.trans ?_ ex.symm)
    exact (rc_kx_v (by omega)).symm
