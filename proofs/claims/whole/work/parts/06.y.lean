/-! the reference's small methods, each with a general post -/
section
variable (c : Nat) (pr so ta rs sg le gr bd ur : Nat → Nat)
abbrev ys_S (n : Int32) (fd ft us : Nat → Int32) : SY := (nI c, n, tp_I pr, tp_I so, tp_I ta, tp_I rs, tp_I sg, tp_I le, tp_I gr, tp_I bd, tp_I ur, ft, fd, us)
end
section
variable {c : Nat} {pr so ta rs sg le gr bd ur : Nat → Nat}
variable {n : Int32} {fd ft us : Nat → Int32}
theorem ym_d8 {q : Nat} (hq : q < 1024) : (nI q / 8) - (nI q / 8) / 8 * 8 = nI (q / 8 % 8) := by
  rw [show (8 : Int32) = nI 8 from rfl, pk_div (by omega) (by omega) (by omega), pk_rem (by omega) (by omega) (by omega)]
theorem ym_r8 {q : Nat} (hq : q < 1024) : nI q - nI q / 8 * 8 = nI (q % 8) := by
  rw [show (8 : Int32) = nI 8 from rfl, pk_rem (by omega) (by omega) (by omega)]
theorem ym_value {post : Int32 → Prop} {q k : Nat} (hq : q < 1024) (hk : k < 2) (h : post (nI (tp_ck (tp_ph q) k))) : wpY_value post (ys_S c pr so ta rs sg le gr bd ur n fd ft us) (nI q) (nI k) := by
  obtain ⟨_, _, p3, p4⟩ := tp_ph_p q
  unfold tp_ck at h
  refine pk_eq k 0 (fun z => ?_) (fun z => ?_)
  · rw [if_pos z, p3] at h
    refine ⟨by decide, by decide, ?_⟩
    rw [ym_d8 hq]; exact h
  · rw [if_neg z, p4] at h
    refine ⟨by decide, ?_⟩
    rw [ym_r8 hq]; exact h
theorem ym_placeOf {post : Int32 → Prop} {q p : Nat} (hq : q < 1024) (hp : p < 2) (h : post (nI (4 * p + tp_pl (tp_ph q) p))) : wpY_placeOf post (ys_S c pr so ta rs sg le gr bd ur n fd ft us) (nI q) (nI p) := by
  obtain ⟨p1, p2, _, _⟩ := tp_ph_p q
  unfold tp_pl at h
  refine pk_eq p 0 (fun z => ?_) (fun z => ?_)
  · rw [if_pos z, p1] at h
    refine ⟨by decide, by decide, ?_⟩
    rw [show (64 : Int32) = nI 64 from rfl, show (4 : Int32) = nI 4 from rfl, pk_div (by omega) (by omega) (by omega), pk_rem (by omega) (by omega) (by omega)]
    have e : 4 * p + q / 64 % 4 = q / 64 % 4 := by omega
    rw [e] at h
    exact h
  · rw [if_neg z, p2] at h
    refine ⟨by decide, ?_⟩
    rw [show (256 : Int32) = nI 256 from rfl, show (4 : Int32) = nI 4 from rfl, pk_div (by omega) (by omega) (by omega), nI_add]
    have e : 4 * p + q / 256 % 4 = 4 + q / 256 := by omega
    rw [e] at h
    exact h
theorem ym_within {post : Int32 → Prop} {l x y : Nat} (G : tp_G c pr so ta rs sg le gr bd ur) (hl : l < 8) (hx : x < 8) (hy : y < 8) (h1 : x ≤ bd (2 * l) ∧ y ≤ bd (2 * l + 1) → post 1) (h0 : ¬ (x ≤ bd (2 * l) ∧ y ≤ bd (2 * l + 1)) → post 0) : wpY_within post (ys_S c pr so ta rs sg le gr bd ur n fd ft us) (nI l) (nI x) (nI y) := by
  obtain ⟨_, _, _, _, _, _, _, _, gb, _⟩ := G
  have b1 := gb (2 * l)
  have b2 := gb (2 * l + 1)
  unfold wpY_within
  dsimp only
  rw [show (2 : Int32) * nI l = nI (2 * l) from by rw [show (2 : Int32) = nI 2 from rfl, pk_mul], nI_1, nI_clamp (by omega), nI_clamp (by omega)]
  exact ⟨vp_in_nI (by omega) (by omega), pk_lt (bd (2 * l)) x (fun z => h0 (by omega)) (fun z => ⟨vp_in_nI (by omega) (by omega), pk_lt (bd (2 * l + 1)) y (fun w => h0 (by omega)) (fun w => h1 ⟨z, w⟩)⟩)⟩
theorem ym_inBounds {post : Int32 → Prop} {q : Nat} (G : tp_G c pr so ta rs sg le gr bd ur) (hq : q < 1024) (h1 : tp_kb bd (tp_ph q) → post 1) (h0 : ¬ tp_kb bd (tp_ph q) → post 0) : wpY_inBounds post (ys_S c pr so ta rs sg le gr bd ur n fd ft us) (nI q) := by
  have c0 := tp_ck_lt (tp_ph q) 0
  have c1 := tp_ck_lt (tp_ph q) 1
  have l0 := tp_pl_lt (tp_ph q) 0
  have l1 := tp_pl_lt (tp_ph q) 1
  have e0 : 4 * 0 + tp_pl (tp_ph q) 0 = tp_pl (tp_ph q) 0 := by omega
  have e1 : 4 * 1 + tp_pl (tp_ph q) 1 = 4 + tp_pl (tp_ph q) 1 := by omega
  unfold wpY_inBounds
  dsimp only
  refine ym_value (k := 0) hq (by omega) ?_
  refine ym_value (k := 1) hq (by omega) ?_
  refine ym_placeOf (p := 0) hq (by omega) ?_
  refine ym_placeOf (p := 1) hq (by omega) ?_
  rw [e0, e1]
  refine ym_within G (by omega) c0 c1 (fun a => br_f (by decide) ?_) (fun a => br_t rfl (h0 (fun o => a o.1)))
  exact ym_within G (by omega) c0 c1 (fun b => br_f (by decide) (h1 ⟨a, b⟩)) (fun b => br_t rfl (h0 (fun o => b o.2)))
theorem ym_op36 {post : Int32 → Prop} {q e k m : Nat} (G : tp_G c pr so ta rs sg le gr bd ur) (hq : q < 1024) (he : e < 12) (hk : k < 2)
    (ok : le (2 * e + k) ≤ tp_ck (tp_ph q) k ∧ tp_ck (tp_ph q) k ≤ gr (2 * e + k) → wY_open_36 post (nI e) (nI q) (nI c) n (tp_I pr) (tp_I so) (tp_I ta) (tp_I rs) (tp_I sg) (tp_I le) (tp_I gr) (tp_I bd) (tp_I ur) ft fd us m (nI (k + 1)))
    (bad : ¬ (le (2 * e + k) ≤ tp_ck (tp_ph q) k ∧ tp_ck (tp_ph q) k ≤ gr (2 * e + k)) → post 0) : wY_open_36 post (nI e) (nI q) (nI c) n (tp_I pr) (tp_I so) (tp_I ta) (tp_I rs) (tp_I sg) (tp_I le) (tp_I gr) (tp_I bd) (tp_I ur) ft fd us (m + 1) (nI k) := by
  obtain ⟨_, _, _, _, _, _, gl, gg, _, _⟩ := G
  have c8 := tp_ck_lt (tp_ph q) k
  have l7 := gl (2 * e + k)
  have g8 := gg (2 * e + k)
  refine pk_le 2 k (fun z => by omega) (fun _ => ?_)
  refine ym_value hq hk ?_
  rw [bx_2, nI_clamp (by omega)]
  refine ⟨vp_in_nI (by omega) (by omega), nm_e ⟨vp_in_nI (by omega) (by omega), pk_lt (tp_ck (tp_ph q) k) (le (2 * e + k)) (fun z => bad (by omega)) (fun z => pk_le 7 (gr (2 * e + k)) (fun w => ?_) (fun w => pk_le (tp_ck (tp_ph q) k) (gr (2 * e + k)) (fun v => ?_) (fun v => bad (by omega))))⟩⟩
  · exact nm_r (nI_1 k) (ok ⟨z, by omega⟩)
  · exact nm_r (nI_1 k) (ok ⟨z, v⟩)
theorem ym_open {post : Int32 → Prop} {q e : Nat} (G : tp_G c pr so ta rs sg le gr bd ur) (hq : q < 1024) (he : e < 12) (h1 : tp_op pr so le gr e (tp_ph q) → post 1) (h0 : ¬ tp_op pr so le gr e (tp_ph q) → post 0) : wpY_open post (ys_S c pr so ta rs sg le gr bd ur n fd ft us) (nI e) (nI q) := by
  have gp := G.2.1 e
  have gs := G.2.2.1 e
  have hl := tp_pl_lt (tp_ph q) (pr e)
  unfold wpY_open
  dsimp only
  rw [nI_clamp (by omega)]
  refine ⟨vp_in_nI he (by omega), ym_placeOf hq gp ⟨vp_in_nI he (by omega), vp_in_nI he (by omega), pk_eq (4 * pr e + tp_pl (tp_ph q) (pr e)) (4 * pr e + so e) (fun z => ⟨0 + 1 + 1 + 1, ?_⟩) (fun z => h0 (fun o => z (by rw [o.1]))) rfl (bx_4 (pr e) (so e))⟩⟩
  refine ym_op36 (k := 0) G hq he (by omega) (fun a => ?_) (fun a => h0 (fun o => a o.2.1))
  refine ym_op36 (k := 1) G hq he (by omega) (fun b => ?_) (fun a => h0 (fun o => a o.2.2))
  exact br_t (by decide) (h1 ⟨by omega, a, b⟩)
theorem ym_mo41 {post : Int32 → Prop} {q x : Nat} (hq : q < 1024) (hx : x < 16) (h : post (nI (64 * x + q % 64))) : wY_moved_41 post (nI q) (nI x) (nI c) n (tp_I pr) (tp_I so) (tp_I ta) (tp_I rs) (tp_I sg) (tp_I le) (tp_I gr) (tp_I bd) (tp_I ur) ft fd us := by
  refine ⟨by decide, ?_⟩
  rw [show (64 : Int32) = nI 64 from rfl, pk_rem (by omega) (by omega) (by omega), pk_mul, nI_add]
  exact h
theorem ym_moved {post : Int32 → Prop} {q e : Nat} (G : tp_G c pr so ta rs sg le gr bd ur) (hq : q < 1024) (he : e < 12) (h : post (nI (ty_mo pr ta e q))) : wpY_moved post (ys_S c pr so ta rs sg le gr bd ur n fd ft us) (nI q) (nI e) := by
  have gp := G.2.1 e
  have gt := G.2.2.2.1 e
  unfold wpY_moved
  dsimp only
  rw [nI_clamp (by omega)]
  unfold ty_mo at h
  refine ⟨by decide, nm_r (show nI q / 64 = nI (q / 64) from by rw [show (64 : Int32) = nI 64 from rfl, pk_div (by omega) (by omega) (by omega)]) ⟨vp_in_nI he (by omega), pk_eq (pr e) 0 (fun z => ⟨by decide, vp_in_nI he (by omega), ?_⟩) (fun z => ⟨by decide, vp_in_nI he (by omega), ?_⟩)⟩⟩
  · rw [if_pos z] at h
    have e1 : (nI (q / 64) / 4) * 4 + tp_I ta e = nI (q / 64 / 4 * 4 + ta e) := by
      show (nI (q / 64) / 4) * 4 + nI (ta e) = _
      rw [show (4 : Int32) = nI 4 from rfl, pk_div (by omega) (by omega) (by omega), pk_mul, nI_add]
    rw [e1]
    exact ym_mo41 hq (by omega) h
  · rw [if_neg z] at h
    have e1 : (nI (q / 64) - nI (q / 64) / 4 * 4) + 4 * tp_I ta e = nI (q / 64 % 4 + 4 * ta e) := by
      show (nI (q / 64) - nI (q / 64) / 4 * 4) + 4 * nI (ta e) = _
      rw [show (4 : Int32) = nI 4 from rfl, pk_rem (by omega) (by omega) (by omega), pk_mul, nI_add]
    rw [e1]
    exact ym_mo41 hq (by omega) h
theorem ym_cl35 {post : Int32 → Prop} {q x y : Nat} (hq : q < 1024) (hx : x < 8) (hy : y < 8) (h : post (nI (q / 64 * 64 + 8 * x + y))) : wY_cleared_35 post (nI q) (nI x) (nI y) (nI c) n (tp_I pr) (tp_I so) (tp_I ta) (tp_I rs) (tp_I sg) (tp_I le) (tp_I gr) (tp_I bd) (tp_I ur) ft fd us := by
  refine ⟨by decide, ?_⟩
  rw [show (64 : Int32) = nI 64 from rfl, show (8 : Int32) = nI 8 from rfl, pk_div (by omega) (by omega) (by omega), pk_mul, pk_mul, nI_add, nI_add]
  exact h
theorem ym_cl17 {post : Int32 → Prop} {q r x : Nat} (hq : q < 1024) (hr : r < 4) (hx : x < 8) (h : post (nI (q / 64 * 64 + 8 * x + (if r / 2 = 1 then 0 else q % 8)))) : wY_cleared_17 post (nI q) (nI r) (nI x) (nI c) n (tp_I pr) (tp_I so) (tp_I ta) (tp_I rs) (tp_I sg) (tp_I le) (tp_I gr) (tp_I bd) (tp_I ur) ft fd us := by
  refine ⟨by decide, pk_eq (r / 2) 1 (fun z => ?_) (fun z => ?_) (by rw [show (2 : Int32) = nI 2 from rfl, pk_div (by omega) (by omega) (by omega)])⟩
  · rw [if_pos z] at h
    exact ym_cl35 (y := 0) hq hx (by omega) h
  · rw [if_neg z] at h
    refine ym_value (k := 1) hq (by omega) ?_
    have e : tp_ck (tp_ph q) 1 = q % 8 := (tp_ph_p q).2.2.2
    rw [e]
    exact ym_cl35 hq hx (by omega) h
theorem ym_cleared {post : Int32 → Prop} {q r : Nat} (hq : q < 1024) (hr : r < 4) (h : post (nI (ty_cl q r))) : wpY_cleared post (ys_S c pr so ta rs sg le gr bd ur n fd ft us) (nI q) (nI r) := by
  unfold ty_cl at h
  refine ⟨by decide, pk_eq (r % 2) 1 (fun z => ?_) (fun z => ?_) (by rw [show (2 : Int32) = nI 2 from rfl, pk_rem (by omega) (by omega) (by omega)])⟩
  · rw [if_pos z] at h
    exact ym_cl17 (x := 0) hq hr (by omega) h
  · rw [if_neg z] at h
    refine ym_value (k := 0) hq (by omega) ?_
    have e : tp_ck (tp_ph q) 0 = q / 8 % 8 := (tp_ph_p q).2.2.1
    rw [e]
    exact ym_cl17 hq hr (by omega) h
def ty_pa (pr sg : Nat → Nat) (e f : Nat) : Prop := pr e = 0 ∧ pr f = 1 ∧ sg e ≠ 0 ∧ sg f ≠ 0 ∧ (sg e = sg f + 2 ∨ sg f = sg e + 2)
theorem ym_partners {post : Int32 → Prop} {e f : Nat} (G : tp_G c pr so ta rs sg le gr bd ur) (he : e < 12) (hf : f < 12) (h1 : ty_pa pr sg e f → post 1) (h0 : ¬ ty_pa pr sg e f → post 0) : wpY_partners post (ys_S c pr so ta rs sg le gr bd ur n fd ft us) (nI e) (nI f) := by
  obtain ⟨_, gp, _, _, _, gs, _, _, _, _⟩ := G
  have pe := gp e
  have pf := gp f
  have se := gs e
  have sf := gs f
  have ve : vp_in (nI e) 12 := vp_in_nI he (by omega)
  have vf : vp_in (nI f) 12 := vp_in_nI hf (by omega)
  unfold wpY_partners
  dsimp only
  rw [nI_clamp (show e < 2 ^ 31 by omega), nI_clamp (show f < 2 ^ 31 by omega)]
  refine ⟨ve, pk_eq (pr e) 0 (fun a => ⟨vf, pk_eq (pr f) 1 (fun b => ⟨vf, ve, nm_e ⟨ve, pk_le (sg e) 0 (fun w => h0 (fun o => ?_)) (fun x => ⟨vf, pk_le (sg f) 0 (fun w => h0 (fun o => ?_)) (fun y => br_c (fun w => h1 ⟨a, b, by omega, by omega, ?_⟩) (fun w => br_c (fun v => h1 ⟨a, b, by omega, by omega, ?_⟩) (fun v => h0 (fun o => ?_))))⟩)⟩⟩) (fun w => h0 (fun o => w o.2.1))⟩) (fun w => h0 (fun o => w o.1))⟩
  · exact o.2.2.1 (by omega)
  · exact o.2.2.2.1 (by omega)
  · exact Or.inr ((bx_sg _ sf _ se).1.mp w)
  · exact Or.inl ((bx_sg _ sf _ se).2.mp v)
  · rcases o.2.2.2.2 with q | q
    · exact v ((bx_sg _ sf _ se).2.mpr q)
    · exact w ((bx_sg _ sf _ se).1.mpr q)
end
