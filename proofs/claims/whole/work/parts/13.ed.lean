/-! edge and drop -/
theorem ed_u {f : Nat → Nat} {k v : Nat} {x : Int32} (hk : k < 2 ^ 31) (e : x = nI v) : upd (tp_I f) (nI k).toNatClampNeg x = tp_I (rc_up f k v) := by
  rw [nI_clamp hk, e, tp_I_up]
theorem ed_x106 {post : Int32 → SX → Prop} {c k m : Nat} {le gr : Nat → Nat} {n : Int32} {a1 a2 a3 a4 a5 a8 a9 fd ft us : Nat → Int32} (hc : c < 12) (hk : k < 2)
    (p : wX_edge_106 post (nI c) (nI c) n m (nI (k + 1)) a1 a2 a3 a4 a5 (tp_I (rc_up le (2 * c + k) 0)) (tp_I (rc_up gr (2 * c + k) 7)) a8 a9 fd ft us) :
    wX_edge_106 post (nI c) (nI c) n (m + 1) (nI k) a1 a2 a3 a4 a5 (tp_I le) (tp_I gr) a8 a9 fd ft us := by
  have vi : vp_in (nI (2 * c + k)) 24 := vp_in_nI (by omega) (by omega)
  refine pk_le 2 k (fun z => by omega) (fun _ => ?_)
  rw [bx_2]
  exact ⟨vi, nm_r (ed_u (v := 0) (by omega) rfl) ⟨vi, nm_r (ed_u (v := 7) (by omega) rfl) (nm_r (nI_1 k) p)⟩⟩
theorem ed_y113 {post : Int32 → SY → Prop} {c k m : Nat} {le gr : Nat → Nat} {n : Int32} {a1 a2 a3 a4 a5 a8 a9 fd ft us : Nat → Int32} (hc : c < 12) (hk : k < 2)
    (p : wY_edge_113 post (nI c) n m (nI (k + 1)) a1 a2 a3 a4 a5 (tp_I (rc_up le (2 * c + k) 0)) (tp_I (rc_up gr (2 * c + k) 7)) a8 a9 fd ft us) :
    wY_edge_113 post (nI c) n (m + 1) (nI k) a1 a2 a3 a4 a5 (tp_I le) (tp_I gr) a8 a9 fd ft us := by
  have vi : vp_in (nI (2 * c + k)) 24 := vp_in_nI (by omega) (by omega)
  refine pk_le 2 k (fun z => by omega) (fun _ => ?_)
  rw [bx_2]
  exact ⟨vi, nm_r (ed_u (v := 0) (by omega) rfl) ⟨vi, nm_r (ed_u (v := 7) (by omega) rfl) (nm_r (nI_1 k) p)⟩⟩
theorem i_vc_edge {k : Nat} {u : SX} {v : SY} (I : i_Rel k u v) (hk : k + 5 ≤ 2560) (v1 : Int32) (v2 : Int32) (v3 : Int32) (v4 : Int32) : wpX_edge (fun r u' => wpY_edge (fun r' v' => r' = r ∧ i_Rel (k + 5) u' v') v v1 v2 v3 v4) u v1 v2 v3 v4 := by
  obtain ⟨c, pr, so, ta, rs, sg, le, gr, bd, ur, n, n', fd, ft, us, fd', ft', us', G, rfl, rfl⟩ := I
  have c12 := G.1
  have same : i_Rel (k + 5) (xs_S c pr so ta rs sg le gr bd ur n fd ft us) (ys_S c pr so ta rs sg le gr bd ur n' fd' ft' us') := ⟨c, pr, so, ta, rs, sg, le, gr, bd, ur, n, n', fd, ft, us, fd', ft', us', G, rfl, rfl⟩
  have Y0 : ¬ (vr_N v1 2 ∧ vr_N v2 16 ∧ vr_N v3 4 ∧ vr_N v4 5) → wpY_edge (fun r' v' => r' = -1 ∧ i_Rel (k + 5) (xs_S c pr so ta rs sg le gr bd ur n fd ft us) v') (ys_S c pr so ta rs sg le gr bd ur n' fd' ft' us') v1 v2 v3 v4 := fun h =>
    vr_lt 1 (fun _ => ⟨rfl, same⟩) (fun a => vr_le 15 (fun _ => ⟨rfl, same⟩) (fun b => vr_lt 3 (fun _ => ⟨rfl, same⟩) (fun d => vr_le 4 (fun _ => ⟨rfl, same⟩) (fun g => absurd ⟨a, b, d, g⟩ h))))
  unfold wpX_edge
  dsimp only
  refine xm_isBit (fun a => br_f (by decide) ?_) (fun a => br_t rfl (Y0 (fun h => a h.1)))
  refine vr_lt 15 (fun b => Y0 (fun h => b h.2.1)) (fun b => ?_)
  refine vr_lt 3 (fun d => Y0 (fun h => d h.2.2.1)) (fun d => ?_)
  refine vr_le 4 (fun g => Y0 (fun h => g h.2.2.2)) (fun g => ?_)
  refine pk_lt c 12 (fun hc => ?_) (fun hc => vr_lt 1 (fun h => absurd a h) (fun _ => vr_le 15 (fun h => absurd b h) (fun _ => vr_lt 3 (fun h => absurd d h) (fun _ => vr_le 4 (fun h => absurd g h) (fun _ => pk_eq c 12 (fun _ => ⟨rfl, same⟩) (fun h => absurd h (by omega)))))))
  have aa := a
  have bb := b
  have dd := d
  have gg := g
  obtain ⟨a, ha, rfl⟩ := a
  obtain ⟨b, hb, rfl⟩ := b
  obtain ⟨d, hd, rfl⟩ := d
  obtain ⟨g, hg, rfl⟩ := g
  have vi : vp_in (nI c) 12 := vp_in_nI hc (by omega)
  have e4 : nI b / 4 = nI (b / 4) := by rw [show (4 : Int32) = nI 4 from rfl, pk_div (by omega) (by omega) (by omega)]
  have l31 : c < 2 ^ 31 := by omega
  refine ⟨vi, nm_r (ed_u l31 rfl) ⟨vi, nm_r (ed_u l31 (pk_andN (by omega) 2 (by decide))) ⟨by decide, vi, nm_r (ed_u l31 e4) ⟨vi, nm_r (ed_u l31 rfl) ⟨vi, nm_r (ed_u l31 rfl) ⟨0 + 1 + 1 + 1, ?_⟩⟩⟩⟩⟩⟩
  refine ed_x106 (k := 0) hc (by omega) ?_
  refine ed_x106 (k := 1) hc (by omega) ?_
  refine br_t (by decide) (nm_r (nI_1 c) ?_)
  refine vr_lt 1 (fun h => absurd aa h) (fun _ => vr_le 15 (fun h => absurd bb h) (fun _ => vr_lt 3 (fun h => absurd dd h) (fun _ => vr_le 4 (fun h => absurd gg h) (fun _ => pk_eq c 12 (fun h => absurd h (by omega)) (fun _ => ?_)))))
  have e5 : nI b - nI b / 4 * 4 = nI (b % 2 ^ 2) := by rw [show (4 : Int32) = nI 4 from rfl, pk_rem (by omega) (by omega) (by omega)]
  refine ⟨vi, nm_r (ed_u l31 rfl) ⟨by decide, vi, nm_r (ed_u l31 e5) ⟨by decide, vi, nm_r (ed_u l31 e4) ⟨vi, nm_r (ed_u l31 rfl) ⟨vi, nm_r (ed_u l31 rfl) ⟨0 + 1 + 1 + 1, ?_⟩⟩⟩⟩⟩⟩
  refine ed_y113 (k := 0) hc (by omega) ?_
  refine ed_y113 (k := 1) hc (by omega) ?_
  refine br_t (by decide) (nm_r (nI_1 c) ⟨nI_pred c, c + 1, _, _, _, _, _, _, _, bd, ur, n, n', fd, ft, us, fd', ft', us', ?_, rfl, rfl⟩)
  obtain ⟨g1, g2, g3, g4, g5, g6, g7, g8, g9, g10⟩ := G
  exact ⟨hc, rc_up_lt g2 ha, rc_up_lt g3 (by omega), rc_up_lt g4 (by omega), rc_up_lt g5 hd, rc_up_lt g6 hg, rc_up_lt (rc_up_lt g7 (by omega)) (by omega), rc_up_lt (rc_up_lt g8 (by omega)) (by omega), g9, g10⟩
def ds_1 (f : Nat → Nat) (i : Nat) : Nat → Nat := rc_up f i (f (i + 1))
def ds_2 (f : Nat → Nat) (i k : Nat) : Nat → Nat := rc_up f (2 * i + k) (f (2 * i + 2 + k))
def dr_1 : Nat → (Nat → Nat) → Nat → (Nat → Nat)
  | 0, f, _ => f
  | d + 1, f, i => dr_1 d (ds_1 f i) (i + 1)
def dr_2 : Nat → (Nat → Nat) → Nat → (Nat → Nat)
  | 0, f, _ => f
  | d + 1, f, i => dr_2 d (ds_2 (ds_2 f i 0) i 1) (i + 1)
theorem dr_1_lt {b : Nat} : ∀ (d : Nat) (f : Nat → Nat) (i : Nat), (∀ j, f j < b) → ∀ j, dr_1 d f i j < b := by
  intro d
  induction d with
  | zero => intro f i h; exact h
  | succ d ih => intro f i h; exact ih _ _ (rc_up_lt h (h _))
theorem dr_2_lt {b : Nat} : ∀ (d : Nat) (f : Nat → Nat) (i : Nat), (∀ j, f j < b) → ∀ j, dr_2 d f i j < b := by
  intro d
  induction d with
  | zero => intro f i h; exact h
  | succ d ih =>
    intro f i h
    have h1 : ∀ j, ds_2 f i 0 j < b := rc_up_lt h (h _)
    have h2 : ∀ j, ds_2 (ds_2 f i 0) i 1 j < b := rc_up_lt h1 (h1 _)
    exact ih _ _ h2
theorem dp_1 {f : Nat → Nat} {i : Nat} (hi : i + 1 < 2 ^ 31) : upd (tp_I f) (nI i).toNatClampNeg (tp_I f (nI (i + 1)).toNatClampNeg) = tp_I (ds_1 f i) := by
  rw [nI_clamp hi, nI_clamp (show i < 2 ^ 31 by omega)]
  exact tp_I_up f i (f (i + 1))
theorem dp_2 {f : Nat → Nat} {i k : Nat} (hi : 2 * i + 2 + k < 2 ^ 31) : upd (tp_I f) (nI (2 * i + k)).toNatClampNeg (tp_I f (nI (2 * i + 2 + k)).toNatClampNeg) = tp_I (ds_2 f i k) := by
  rw [nI_clamp hi, nI_clamp (show 2 * i + k < 2 ^ 31 by omega)]
  exact tp_I_up f (2 * i + k) (f (2 * i + 2 + k))
theorem dp_x {i k : Nat} : 2 * nI (i + 1) + nI k = nI (2 * i + 2 + k) := by
  rw [bx_2]
  exact congrArg nI (by omega)
theorem dp_y {i k : Nat} : (2 * nI i + 2) + nI k = nI (2 * i + 2 + k) := by
  rw [show (2 : Int32) * nI i + 2 = nI (2 * i + 2) from bx_2 i 2, nI_add]
theorem dr_x66 {post : SX → Prop} {cc n : Int32} {i k m : Nat} {le gr : Nat → Nat} {a1 a2 a3 a4 a5 a8 a9 fd ft us : Nat → Int32} (hi : i + 1 < 12) (hk : k < 2)
    (p : wX_takeFromNext_66 post (nI i) (nI (i + 1)) cc n m (nI (k + 1)) a1 a2 a3 a4 a5 (tp_I (ds_2 le i k)) (tp_I (ds_2 gr i k)) a8 a9 fd ft us) :
    wX_takeFromNext_66 post (nI i) (nI (i + 1)) cc n (m + 1) (nI k) a1 a2 a3 a4 a5 (tp_I le) (tp_I gr) a8 a9 fd ft us := by
  have v1 : vp_in (nI (2 * i + k)) 24 := vp_in_nI (by omega) (by omega)
  have v2 : vp_in (nI (2 * i + 2 + k)) 24 := vp_in_nI (by omega) (by omega)
  refine pk_le 2 k (fun z => by omega) (fun _ => ?_)
  rw [bx_2 i k, dp_x]
  exact ⟨v2, v1, nm_r (dp_2 (by omega)) ⟨v2, v1, nm_r (dp_2 (by omega)) (nm_r (nI_1 k) p)⟩⟩
theorem dr_y95 {post : Int32 → SY → Prop} {J : Int32 → (Nat → Int32) → (Nat → Int32) → (Nat → Int32) → (Nat → Int32) → (Nat → Int32) → (Nat → Int32) → (Nat → Int32) → (Nat → Int32) → (Nat → Int32) → (Nat → Int32) → (Nat → Int32) → (Nat → Int32) → Prop} {cc n : Int32} {i k m : Nat} {le gr : Nat → Nat} {a1 a2 a3 a4 a5 a8 a9 fd ft us : Nat → Int32} (hi : i + 1 < 12) (hk : k < 2)
    (p : wY_drop_95 post J (nI i) cc n m (nI (k + 1)) a1 a2 a3 a4 a5 (tp_I (ds_2 le i k)) (tp_I (ds_2 gr i k)) a8 a9 fd ft us) :
    wY_drop_95 post J (nI i) cc n (m + 1) (nI k) a1 a2 a3 a4 a5 (tp_I le) (tp_I gr) a8 a9 fd ft us := by
  have v1 : vp_in (nI (2 * i + k)) 24 := vp_in_nI (by omega) (by omega)
  have v2 : vp_in (nI (2 * i + 2 + k)) 24 := vp_in_nI (by omega) (by omega)
  refine pk_le 2 k (fun z => by omega) (fun _ => ?_)
  rw [bx_2 i k, dp_y]
  exact ⟨v2, v1, nm_r (dp_2 (by omega)) ⟨v2, v1, nm_r (dp_2 (by omega)) (nm_r (nI_1 k) p)⟩⟩
theorem dr_x {post : Int32 → SX → Prop} {c : Nat} {bd ur : Nat → Nat} {n : Int32} {fd ft us : Nat → Int32} (hc : c < 12) :
    ∀ (d m i : Nat) (pr so ta rs sg le gr : Nat → Nat), i + d = c → d < m → post (nI c) (xs_S c (dr_1 d pr i) (dr_1 d so i) (dr_1 d ta i) (dr_1 d rs i) (dr_1 d sg i) (dr_2 d le i) (dr_2 d gr i) bd ur n fd ft us) → wX_drop_23 post m (nI i) (nI c) n (tp_I pr) (tp_I so) (tp_I ta) (tp_I rs) (tp_I sg) (tp_I le) (tp_I gr) (tp_I bd) (tp_I ur) fd ft us := by
  intro d
  induction d with
  | zero =>
    intro m i pr so ta rs sg le gr h1 h2 p
    obtain ⟨m, rfl⟩ : ∃ m', m = m' + 1 := ⟨m - 1, by omega⟩
    exact pk_le c i (fun _ => p) (fun h => absurd h (by omega))
  | succ d ih =>
    intro m i pr so ta rs sg le gr h1 h2 p
    obtain ⟨m, rfl⟩ : ∃ m', m = m' + 1 := ⟨m - 1, by omega⟩
    have v1 : vp_in (nI i) 12 := vp_in_nI (by omega) (by omega)
    have v2 : vp_in (nI (i + 1)) 12 := vp_in_nI (by omega) (by omega)
    have l31 : i + 1 < 2 ^ 31 := by omega
    refine pk_le c i (fun h => absurd h (by omega)) (fun _ => ?_)
    unfold wpX_takeFromNext
    dsimp only
    refine nm_r (nI_1 i) ⟨v2, v1, nm_r (dp_1 l31) ⟨v2, v1, nm_r (dp_1 l31) ⟨v2, v1, nm_r (dp_1 l31) ⟨v2, v1, nm_r (dp_1 l31) ⟨v2, v1, nm_r (dp_1 l31) ⟨0 + 1 + 1 + 1, ?_⟩⟩⟩⟩⟩⟩
    refine dr_x66 (k := 0) (by omega) (by omega) ?_
    refine dr_x66 (k := 1) (by omega) (by omega) ?_
    refine br_t (by decide) (nm_r (nI_1 i) ?_)
    exact ih m (i + 1) _ _ _ _ _ _ _ (by omega) (by omega) p
theorem dr_y {post : Int32 → SY → Prop} {c : Nat} {bd ur : Nat → Nat} {n : Int32} {fd ft us : Nat → Int32} (hc : c < 12) :
    ∀ (d m i : Nat) (pr so ta rs sg le gr : Nat → Nat), i + d = c → d < m → post (nI c) (ys_S c (dr_1 d pr i) (dr_1 d so i) (dr_1 d ta i) (dr_1 d rs i) (dr_1 d sg i) (dr_2 d le i) (dr_2 d gr i) bd ur n fd ft us) → wY_drop_13 post (nI (c + 1)) n m (nI i) (tp_I pr) (tp_I so) (tp_I ta) (tp_I rs) (tp_I sg) (tp_I le) (tp_I gr) (tp_I bd) (tp_I ur) ft fd us := by
  intro d
  induction d with
  | zero =>
    intro m i pr so ta rs sg le gr h1 h2 p
    obtain ⟨m, rfl⟩ : ∃ m', m = m' + 1 := ⟨m - 1, by omega⟩
    exact pk_le c i (fun _ => nm_r (nI_pred c) p) (fun h => absurd h (by omega)) (nI_pred c)
  | succ d ih =>
    intro m i pr so ta rs sg le gr h1 h2 p
    obtain ⟨m, rfl⟩ : ∃ m', m = m' + 1 := ⟨m - 1, by omega⟩
    have v1 : vp_in (nI i) 12 := vp_in_nI (by omega) (by omega)
    have v2 : vp_in (nI (i + 1)) 12 := vp_in_nI (by omega) (by omega)
    have l31 : i + 1 < 2 ^ 31 := by omega
    refine pk_le c i (fun h => absurd h (by omega)) (fun _ => ?_) (nI_pred c)
    rw [nI_1 i]
    refine ⟨v2, v1, nm_r (dp_1 l31) ⟨v2, v1, nm_r (dp_1 l31) ⟨v2, v1, nm_r (dp_1 l31) ⟨v2, v1, nm_r (dp_1 l31) ⟨v2, v1, nm_r (dp_1 l31) ⟨0 + 1 + 1 + 1, ?_⟩⟩⟩⟩⟩⟩
    refine dr_y95 (k := 0) (by omega) (by omega) ?_
    refine dr_y95 (k := 1) (by omega) (by omega) ?_
    refine br_t (by decide) (nm_r (nI_1 i) ?_)
    exact ih m (i + 1) _ _ _ _ _ _ _ (by omega) (by omega) p
theorem i_vc_drop {k : Nat} {u : SX} {v : SY} (I : i_Rel k u v) (hk : k + 5 ≤ 2560) (v1 : Int32) : wpX_drop (fun r u' => wpY_drop (fun r' v' => r' = r ∧ i_Rel (k + 5) u' v') v v1) u v1 := by
  obtain ⟨c, pr, so, ta, rs, sg, le, gr, bd, ur, n, n', fd, ft, us, fd', ft', us', G, rfl, rfl⟩ := I
  have c12 := G.1
  have same : i_Rel (k + 5) (xs_S c pr so ta rs sg le gr bd ur n fd ft us) (ys_S c pr so ta rs sg le gr bd ur n' fd' ft' us') := ⟨c, pr, so, ta, rs, sg, le, gr, bd, ur, n, n', fd, ft, us, fd', ft', us', G, rfl, rfl⟩
  unfold wpX_drop
  dsimp only
  refine xm_isEdge G (fun e => br_f (by decide) ?_) (fun e => br_t rfl ?_)
  rotate_left
  · unfold wpY_drop
    exact ym_isEdge G (fun h => absurd h e) (fun _ => br_t rfl ⟨rfl, same⟩)
  have ee := e
  obtain ⟨e, he, rfl⟩ := e
  obtain ⟨d, rfl⟩ : ∃ d, c = e + d + 1 := ⟨c - e - 1, by omega⟩
  refine nm_r (nI_pred (e + d)) ⟨d + 1, dr_x (by omega) d (d + 1) e pr so ta rs sg le gr rfl (by omega) ?_⟩
  unfold wpY_drop
  refine ym_isEdge G (fun _ => br_f (by decide) ⟨d + 1, dr_y (by omega) d (d + 1) e pr so ta rs sg le gr rfl (by omega) ?_⟩) (fun h => absurd ee h)
  refine ⟨rfl, e + d, _, _, _, _, _, _, _, bd, ur, n, n', fd, ft, us, fd', ft', us', ?_, rfl, rfl⟩
  obtain ⟨g1, g2, g3, g4, g5, g6, g7, g8, g9, g10⟩ := G
  exact ⟨by omega, dr_1_lt _ _ _ g2, dr_1_lt _ _ _ g3, dr_1_lt _ _ _ g4, dr_1_lt _ _ _ g5, dr_1_lt _ _ _ g6, dr_2_lt _ _ _ g7, dr_2_lt _ _ _ g8, g9, g10⟩
