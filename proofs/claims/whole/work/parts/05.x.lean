/-! the component's small methods, each with a general post -/
section
variable (c : Nat) (pr so ta rs sg le gr bd ur : Nat → Nat)
abbrev xs_S (n : Int32) (fd ft us : Nat → Int32) : SX := (nI c, n, tp_I pr, tp_I so, tp_I ta, tp_I rs, tp_I sg, tp_I le, tp_I gr, tp_I bd, tp_I ur, fd, ft, us)
end
section
variable {c : Nat} {pr so ta rs sg le gr bd ur : Nat → Nat}
variable {n : Int32} {fd ft us : Nat → Int32}
theorem xm_location {post : Int32 → Prop} {s p : Nat} (hs : s < 1024) (hp : p < 2) (h : post (nI (tp_pl s p))) : wpX_location post (xs_S c pr so ta rs sg le gr bd ur n fd ft us) (nI s) (nI p) := by
  show post _
  rw [bx_pl hs hp]; exact h
theorem xm_clock {post : Int32 → Prop} {s k : Nat} (hs : s < 1024) (hk : k < 2) (h : post (nI (tp_ck s k))) : wpX_clock post (xs_S c pr so ta rs sg le gr bd ur n fd ft us) (nI s) (nI k) := by
  show post _
  rw [bx_ck hs hk]; exact h
theorem xm_withClock {post : Int32 → Prop} {s k v : Nat} (hs : s < 1024) (hk : k < 2) (hv : v < 8) (h : post (nI (tp_wc s k v))) : wpX_withClock post (xs_S c pr so ta rs sg le gr bd ur n fd ft us) (nI s) (nI k) (nI v) := by
  show ∀ y, y = 4 + 3 * nI k → post _
  intro y ey
  rw [ey, bx_wc hs hk hv]; exact h
theorem xm_al24 {post : Int32 → Prop} {s e k m : Nat} (G : tp_G c pr so ta rs sg le gr bd ur) (hs : s < 1024) (he : e < 12) (hk : k < 2)
    (ok : le (2 * e + k) ≤ tp_ck s k ∧ tp_ck s k ≤ gr (2 * e + k) → wX_allows_24 post (nI s) (nI e) (nI c) n (tp_I pr) (tp_I so) (tp_I ta) (tp_I rs) (tp_I sg) (tp_I le) (tp_I gr) (tp_I bd) (tp_I ur) fd ft us m (nI (k + 1)))
    (bad : ¬ (le (2 * e + k) ≤ tp_ck s k ∧ tp_ck s k ≤ gr (2 * e + k)) → post 0) : wX_allows_24 post (nI s) (nI e) (nI c) n (tp_I pr) (tp_I so) (tp_I ta) (tp_I rs) (tp_I sg) (tp_I le) (tp_I gr) (tp_I bd) (tp_I ur) fd ft us (m + 1) (nI k) := by
  obtain ⟨_, _, _, _, _, _, gl, gg, _, _⟩ := G
  have c8 := tp_ck_lt s k
  have l7 := gl (2 * e + k)
  have g8 := gg (2 * e + k)
  refine pk_le 2 k (fun z => by omega) (fun _ => ?_)
  refine xm_clock hs hk ?_
  rw [bx_2, nI_clamp (by omega)]
  refine ⟨vp_in_nI (by omega) (by omega), pk_lt (tp_ck s k) (le (2 * e + k)) (fun z => bad (by omega)) (fun z => ⟨vp_in_nI (by omega) (by omega), pk_le (tp_ck s k) (gr (2 * e + k)) (fun w => ?_) (fun w => bad (by omega))⟩)⟩
  exact nm_r (nI_1 k) (ok ⟨z, w⟩)
theorem xm_allows {post : Int32 → Prop} {s e : Nat} (G : tp_G c pr so ta rs sg le gr bd ur) (hs : s < 1024) (he : e < 12) (h1 : tp_op pr so le gr e s → post 1) (h0 : ¬ tp_op pr so le gr e s → post 0) : wpX_allows post (xs_S c pr so ta rs sg le gr bd ur n fd ft us) (nI s) (nI e) := by
  have gp := G.2.1 e
  have gs := G.2.2.1 e
  have hl := tp_pl_lt s (pr e)
  unfold wpX_allows
  dsimp only
  rw [nI_clamp (by omega)]
  refine ⟨vp_in_nI he (by omega), xm_location hs gp ⟨vp_in_nI he (by omega), pk_eq (tp_pl s (pr e)) (so e) (fun z => ⟨0 + 1 + 1 + 1, ?_⟩) (fun z => h0 (fun o => z o.1))⟩⟩
  refine xm_al24 (k := 0) G hs he (by omega) (fun a => ?_) (fun a => h0 (fun o => a o.2.1))
  refine xm_al24 (k := 1) G hs he (by omega) (fun b => ?_) (fun a => h0 (fun o => a o.2.2))
  exact br_t (by decide) (h1 ⟨z, a, b⟩)
theorem xm_kb21 {post : Int32 → Prop} {J : Int32 → Prop} {s p x k m : Nat} (G : tp_G c pr so ta rs sg le gr bd ur) (hs : s < 1024) (hx : x < 8) (hk : k < 2)
    (ok : tp_ck s k ≤ bd (2 * x + k) → wX_keepsBounds_21 post J (nI s) (nI p) (nI x) (nI c) n (tp_I pr) (tp_I so) (tp_I ta) (tp_I rs) (tp_I sg) (tp_I le) (tp_I gr) (tp_I bd) (tp_I ur) fd ft us m (nI (k + 1)))
    (bad : ¬ tp_ck s k ≤ bd (2 * x + k) → post 0) : wX_keepsBounds_21 post J (nI s) (nI p) (nI x) (nI c) n (tp_I pr) (tp_I so) (tp_I ta) (tp_I rs) (tp_I sg) (tp_I le) (tp_I gr) (tp_I bd) (tp_I ur) fd ft us (m + 1) (nI k) := by
  obtain ⟨_, _, _, _, _, _, _, _, gb, _⟩ := G
  have c8 := tp_ck_lt s k
  have b8 := gb (2 * x + k)
  refine pk_le 2 k (fun z => by omega) (fun _ => ?_)
  refine xm_clock hs hk ?_
  rw [bx_2, nI_clamp (by omega)]
  exact ⟨vp_in_nI (by omega) (by omega), pk_le (tp_ck s k) (bd (2 * x + k)) (fun w => nm_r (nI_1 k) (ok w)) (fun w => bad (by omega))⟩
theorem xm_kb2 {post : Int32 → Prop} {s p m : Nat} (G : tp_G c pr so ta rs sg le gr bd ur) (hs : s < 1024) (hp : p < 2)
    (ok : tp_ck s 0 ≤ bd (2 * (4 * p + tp_pl s p)) ∧ tp_ck s 1 ≤ bd (2 * (4 * p + tp_pl s p) + 1) → wX_keepsBounds_2 post (nI s) (nI c) n (tp_I pr) (tp_I so) (tp_I ta) (tp_I rs) (tp_I sg) (tp_I le) (tp_I gr) (tp_I bd) (tp_I ur) fd ft us m (nI (p + 1)))
    (bad : ¬ (tp_ck s 0 ≤ bd (2 * (4 * p + tp_pl s p)) ∧ tp_ck s 1 ≤ bd (2 * (4 * p + tp_pl s p) + 1)) → post 0) : wX_keepsBounds_2 post (nI s) (nI c) n (tp_I pr) (tp_I so) (tp_I ta) (tp_I rs) (tp_I sg) (tp_I le) (tp_I gr) (tp_I bd) (tp_I ur) fd ft us (m + 1) (nI p) := by
  have hl := tp_pl_lt s p
  refine pk_le 2 p (fun z => by omega) (fun _ => ?_)
  refine xm_location hs hp ?_
  refine nm_r (bx_4 p (tp_pl s p)) ⟨0 + 1 + 1 + 1, ?_⟩
  refine xm_kb21 (k := 0) G hs (by omega) (by omega) (fun a => ?_) (fun a => bad (fun o => a o.1))
  refine xm_kb21 (k := 1) G hs (by omega) (by omega) (fun b => ?_) (fun a => bad (fun o => a o.2))
  exact br_t (by decide) (nm_r (nI_1 p) (ok ⟨a, b⟩))
theorem xm_keepsBounds {post : Int32 → Prop} {s : Nat} (G : tp_G c pr so ta rs sg le gr bd ur) (hs : s < 1024) (h1 : tp_kb bd s → post 1) (h0 : ¬ tp_kb bd s → post 0) : wpX_keepsBounds post (xs_S c pr so ta rs sg le gr bd ur n fd ft us) (nI s) := by
  refine ⟨0 + 1 + 1 + 1, ?_⟩
  have e0 : 4 * 0 + tp_pl s 0 = tp_pl s 0 := by omega
  refine xm_kb2 (p := 0) G hs (by omega) (fun a => ?_) (fun a => h0 (fun o => a (by rw [e0]; exact o.1)))
  refine xm_kb2 (p := 1) G hs (by omega) (fun b => ?_) (fun a => h0 (fun o => a o.2))
  rw [e0] at a
  exact br_t (by decide) (h1 ⟨a, b⟩)
theorem xm_isMove {post : Int32 → Prop} {e f : Nat} (G : tp_G c pr so ta rs sg le gr bd ur) (he : e < 12) (hf : f < 12) (h1 : tp_im pr sg e f → post 1) (h0 : ¬ tp_im pr sg e f → post 0) : wpX_isMove post (xs_S c pr so ta rs sg le gr bd ur n fd ft us) (nI e) (nI f) := by
  obtain ⟨_, gp, _, _, _, gs, _, _, _, _⟩ := G
  have pe := gp e
  have pf := gp f
  have se := gs e
  have sf := gs f
  have ve : vp_in (nI e) 12 := vp_in_nI he (by omega)
  have vf : vp_in (nI f) 12 := vp_in_nI hf (by omega)
  unfold wpX_isMove
  dsimp only
  rw [nI_clamp (show e < 2 ^ 31 by omega), nI_clamp (show f < 2 ^ 31 by omega)]
  refine pk_eq e f (fun z => ⟨ve, pk_eq (sg e) 0 (fun w => h1 (Or.inl ⟨z, w⟩)) (fun w => h0 (fun o => ?_))⟩) (fun z => ⟨ve, pk_eq (pr e) 0 (fun a => ⟨vf, pk_eq (pr f) 1 (fun b => ⟨ve, pk_eq (sg e) 0 (fun w => h0 (fun o => ?_)) (fun x => ⟨vf, pk_eq (sg f) 0 (fun w => h0 (fun o => ?_)) (fun y => ⟨ve, vf, br_c (fun w => h1 (Or.inr ⟨z, a, b, x, y, ?_⟩)) (fun w => ⟨vf, ve, br_c (fun v => h1 (Or.inr ⟨z, a, b, x, y, ?_⟩)) (fun v => h0 (fun o => ?_))⟩)⟩)⟩)⟩) (fun w => h0 (fun o => ?_))⟩) (fun w => h0 (fun o => ?_))⟩)
  · rcases o with o | o
    · exact w o.2
    · exact o.1 z
  · rcases o with o | o
    · exact z o.1
    · exact o.2.2.2.1 w
  · rcases o with o | o
    · exact z o.1
    · exact o.2.2.2.2.1 w
  · exact Or.inl ((bx_sg _ se _ sf).1.mp w)
  · exact Or.inr ((bx_sg _ sf _ se).1.mp v)
  · rcases o with o | o
    · exact z o.1
    · rcases o.2.2.2.2.2 with q | q
      · exact w ((bx_sg _ se _ sf).1.mpr q)
      · exact v ((bx_sg _ sf _ se).1.mpr q)
  · rcases o with o | o
    · exact z o.1
    · exact w o.2.2.1
  · rcases o with o | o
    · exact z o.1
    · exact w o.2.1
theorem xm_fo30 {post : Int32 → Prop} {s e k m : Nat} (G : tp_G c pr so ta rs sg le gr bd ur) (hs : s < 1024) (he : e < 12) (hk : k < 2)
    (h : wX_follow_30 post (nI e) (nI c) n (tp_I pr) (tp_I so) (tp_I ta) (tp_I rs) (tp_I sg) (tp_I le) (tp_I gr) (tp_I bd) (tp_I ur) fd ft us m (nI (if (if k = 0 then rs e % 2 else rs e / 2) = 1 then tp_wc s k 0 else s)) (nI (k + 1))) : wX_follow_30 post (nI e) (nI c) n (tp_I pr) (tp_I so) (tp_I ta) (tp_I rs) (tp_I sg) (tp_I le) (tp_I gr) (tp_I bd) (tp_I ur) fd ft us (m + 1) (nI s) (nI k) := by
  have r4 := G.2.2.2.2.1 e
  have b : (nI (rs e) >>> (nI k &&& 31)) &&& 1 = nI (if k = 0 then rs e % 2 else rs e / 2) := by
    match k, hk with
    | 0, _ => exact (bx_rs _ r4).1
    | 1, _ => exact (bx_rs _ r4).2
  refine pk_le 2 k (fun z => by omega) (fun _ => ⟨vp_in_nI he (by omega), ?_⟩)
  rw [nI_clamp (show e < 2 ^ 31 by omega)]
  have q : (if k = 0 then rs e % 2 else rs e / 2) < 2 := by split <;> omega
  refine pk_eq (if k = 0 then rs e % 2 else rs e / 2) 1 (fun z => ?_) (fun z => ?_) b
  · rw [if_pos z] at h
    exact xm_withClock (v := 0) hs hk (by omega) (nm_r (nI_1 k) h)
  · rw [if_neg z] at h
    exact nm_r (nI_1 k) h
theorem xm_follow {post : Int32 → Prop} {s e : Nat} (G : tp_G c pr so ta rs sg le gr bd ur) (hs : s < 1024) (he : e < 12) (h : post (nI (tp_fo pr ta rs e s))) : wpX_follow post (xs_S c pr so ta rs sg le gr bd ur n fd ft us) (nI s) (nI e) := by
  have gp := G.2.1 e
  have gt := G.2.2.2.1 e
  unfold wpX_follow
  dsimp only
  rw [nI_clamp (show e < 2 ^ 31 by omega)]
  refine ⟨vp_in_nI he (by omega), nm_e ⟨vp_in_nI he (by omega), nm_r (bx_lo hs gp gt) ⟨0 + 1 + 1 + 1, ?_⟩⟩⟩
  refine xm_fo30 (k := 0) G (tp_lo_lt gt) he (by omega) ?_
  refine xm_fo30 (k := 1) G ?_ he (by omega) ?_
  · exact bx_ite (tp_wc_lt (by omega)) (tp_lo_lt gt)
  · refine br_t (by decide) ?_
    rw [tp_fo_x gt] at h
    exact h
end
