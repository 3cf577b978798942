/-! the component's search -/
section
variable {c : Nat} {pr so ta rs sg le gr bd ur : Nat → Nat}
theorem xs_note {post : SX → Prop} {lo h n s : Nat} {F T U : Nat → Nat} {fc : Int32} {fd ft us : Nat → Int32} (A : rc_A rc_kx n F T U fc fd ft us) (O : rc_Ok (tp_mv c pr so ta rs sg le gr bd) (tp_wt bd ur) lo h n F T U) (hs : s < 1024) (R : rc_R (tp_mv c pr so ta rs sg le gr bd) (tp_wt bd ur) s h)
    (p : rc_go (tp_mv c pr so ta rs sg le gr bd) (tp_wt bd ur) rc_kx (xs_S c pr so ta rs sg le gr bd ur) post lo h n F T U (fun T' _ => T' s ≤ h)) : wpX_note post (xs_S c pr so ta rs sg le gr bd ur fc fd ft us) (nI s) (nI h) := by
  have A0 := A
  obtain ⟨rfl, a2, a3, a4⟩ := A
  have n1 := rc_Ok_n _ _ O
  have hh : h ≤ 20 := O.2.1
  unfold wpX_note
  dsimp only
  rw [nI_clamp (show s < 2 ^ 31 by omega), nI_clamp (show n < 2 ^ 31 by omega), a3 s hs]
  refine ⟨vp_in_nI hs (by omega), ?_⟩
  by_cases z : T s = 21
  · obtain ⟨hn, O', L⟩ := rc_note _ _ O hs z R
    refine br_t (by rw [z]; rfl) (pk_le 1024 n (fun w => absurd w (by omega)) (fun _ => ⟨vp_in_nI hs (by omega), nm_e ⟨vp_in_nI hn (by omega), nm_e (nm_r (nI_1 n) ?_)⟩⟩))
    exact p _ _ _ _ _ _ _ _ (rc_A_note A0 (rc_kx_v (by omega))) O' L (Nat.le_of_eq rc_us)
  · have t := rc_Ok_T _ _ O hs z
    exact br_f (rc_kx_t _ (by omega)) (p _ _ _ _ _ _ _ _ A0 O rc_Le_rf t)
theorem xs_noteUse {post : SX → Prop} {lo h n e : Nat} {F T U : Nat → Nat} {fc : Int32} {fd ft us : Nat → Int32} (A : rc_A rc_kx n F T U fc fd ft us) (O : rc_Ok (tp_mv c pr so ta rs sg le gr bd) (tp_wt bd ur) lo h n F T U) (he : e < 12) (V : rc_V (tp_mv c pr so ta rs sg le gr bd) (tp_wt bd ur) e h)
    (p : rc_go (tp_mv c pr so ta rs sg le gr bd) (tp_wt bd ur) rc_kx (xs_S c pr so ta rs sg le gr bd ur) post lo h n F T U (fun _ U' => U' e ≤ h)) : wpX_noteUse post (xs_S c pr so ta rs sg le gr bd ur fc fd ft us) (nI e) (nI h) := by
  have hh : h ≤ 20 := O.2.1
  unfold wpX_noteUse
  dsimp only
  rw [nI_clamp (show e < 2 ^ 31 by omega), A.2.2.2 e he]
  refine ⟨vp_in_nI he (by omega), ?_⟩
  by_cases z : U e = 21
  · obtain ⟨O', L⟩ := rc_use _ _ O z V
    exact br_t (by rw [z]; rfl) ⟨vp_in_nI he (by omega), nm_e (p _ _ _ _ _ _ _ _ (rc_A_use A (rc_kx_v (by omega))) O' L (Nat.le_of_eq rc_us))⟩
  · have t := rc_Ok_U _ _ O z
    exact br_f (rc_kx_t _ (by omega)) (p _ _ _ _ _ _ _ _ A O rc_Le_rf t)
theorem xs_moveBy {post : SX → Prop} {lo h n s e f : Nat} {F T U : Nat → Nat} {fc : Int32} {fd ft us : Nat → Int32} (G : tp_G c pr so ta rs sg le gr bd ur) (A : rc_A rc_kx n F T U fc fd ft us) (O : rc_Ok (tp_mv c pr so ta rs sg le gr bd) (tp_wt bd ur) lo h n F T U) (hs : s < 1024) (he : e < c) (hf : f < c) (R : rc_R (tp_mv c pr so ta rs sg le gr bd) (tp_wt bd ur) s h) (im : tp_im pr sg e f) (oe : tp_op pr so le gr e s) (of : tp_op pr so le gr f s)
    (p : rc_go (tp_mv c pr so ta rs sg le gr bd) (tp_wt bd ur) rc_kx (xs_S c pr so ta rs sg le gr bd ur) post lo h n F T U (rc_dn (tp_mv c pr so ta rs sg le gr bd) s h e f)) : wpX_moveBy post (xs_S c pr so ta rs sg le gr bd ur fc fd ft us) (nI s) (nI e) (nI f) (nI h) := by
  have c12 := G.1
  have gt := G.2.2.2.1
  have l1 := tp_fo_lt pr ta rs (s := s) (gt e)
  have l2 := tp_fo_lt pr ta rs (s := tp_fo pr ta rs e s) (gt f)
  unfold wpX_moveBy
  dsimp only
  refine xm_follow G hs (by omega) ?_
  refine xm_follow G l1 (by omega) ?_
  refine xm_keepsBounds G l2 (fun kb => br_f (by decide) ?_) (fun kb => br_t rfl (p _ _ _ _ _ _ _ _ A O rc_Le_rf ?_))
  · have m : (tp_mv c pr so ta rs sg le gr bd) e f s (tp_fo pr ta rs f (tp_fo pr ta rs e s)) := ⟨he, hf, im, oe, of, rfl, kb⟩
    refine xs_noteUse A O (by omega) ⟨f, s, _, R, Or.inl m⟩ ?_
    intro n1 F1 T1 U1 fc1 fd1 ft1 us1 A1 O1 L1 d1
    refine xs_noteUse A1 O1 (by omega) ⟨e, s, _, R, Or.inr m⟩ ?_
    intro n2 F2 T2 U2 fc2 fd2 ft2 us2 A2 O2 L2 d2
    refine xs_note A2 O2 l2 (rc_Rm _ _ R m) ?_
    intro n3 F3 T3 U3 fc3 fd3 ft3 us3 A3 O3 L3 d3
    refine p _ _ _ _ _ _ _ _ A3 O3 (rc_Le_tr L1 (rc_Le_tr L2 L3)) ?_
    have hh : h ≤ 20 := O.2.1
    intro s' m'
    obtain ⟨_, _, _, _, _, m6, _⟩ := m'
    rw [m6]
    refine ⟨d3, ?_, ?_⟩
    · rw [(rc_Le_tr L2 L3).2.2.2 e (by have := d1; omega)]; exact d1
    · rw [L3.2.2.2 f (by have := d2; omega)]; exact d2
  · intro s' m'
    obtain ⟨_, _, _, _, _, m6, m7⟩ := m'
    rw [m6] at m7
    exact absurd m7 kb
theorem xs_mf13 {post : SX → Prop} {J : Int32 → Int32 → Int32 → (Nat → Int32) → (Nat → Int32) → (Nat → Int32) → (Nat → Int32) → (Nat → Int32) → (Nat → Int32) → (Nat → Int32) → (Nat → Int32) → (Nat → Int32) → (Nat → Int32) → (Nat → Int32) → (Nat → Int32) → Prop} {lo h s e : Nat} (G : tp_G c pr so ta rs sg le gr bd ur) (hs : s < 1024) (he : e < c) (R : rc_R (tp_mv c pr so ta rs sg le gr bd) (tp_wt bd ur) s h) :
    ∀ (m f n : Nat) (F T U : Nat → Nat) (fc : Int32) (fd ft us : Nat → Int32), c - f < m → f ≤ c → rc_A rc_kx n F T U fc fd ft us → rc_Ok (tp_mv c pr so ta rs sg le gr bd) (tp_wt bd ur) lo h n F T U → (∀ f', f' < f → rc_dn (tp_mv c pr so ta rs sg le gr bd) s h e f' T U) →
    (∀ (n' : Nat) (F' T' U' : Nat → Nat) (fc : Int32) (fd ft us : Nat → Int32), rc_A rc_kx n' F' T' U' fc fd ft us → rc_Ok (tp_mv c pr so ta rs sg le gr bd) (tp_wt bd ur) lo h n' F' T' U' → rc_Le n F T U n' F' T' U' → (∀ f', f' < c → rc_dn (tp_mv c pr so ta rs sg le gr bd) s h e f' T' U') → J (nI (e + 1)) (nI c) fc (tp_I pr) (tp_I so) (tp_I ta) (tp_I rs) (tp_I sg) (tp_I le) (tp_I gr) (tp_I bd) (tp_I ur) fd ft us) →
    wX_moveFrom_13 post J (nI s) (nI h) (nI e) m (nI f) (nI c) fc (tp_I pr) (tp_I so) (tp_I ta) (tp_I rs) (tp_I sg) (tp_I le) (tp_I gr) (tp_I bd) (tp_I ur) fd ft us := by
  have c12 := G.1
  intro m
  induction m with
  | zero => intro f n F T U fc fd ft us h1; omega
  | succ m ih =>
    intro f n F T U fc fd ft us h1 h2 A O dn p
    have hh : h ≤ 20 := O.2.1
    refine pk_le c f (fun z => nm_r (nI_1 e) (p n F T U fc fd ft us A O rc_Le_rf (fun f' hf' => dn f' (by omega)))) (fun z => ?_)
    have next : ∀ (n' : Nat) (F' T' U' : Nat → Nat) (fc : Int32) (fd ft us : Nat → Int32), rc_A rc_kx n' F' T' U' fc fd ft us → rc_Ok (tp_mv c pr so ta rs sg le gr bd) (tp_wt bd ur) lo h n' F' T' U' → rc_Le n F T U n' F' T' U' → rc_dn (tp_mv c pr so ta rs sg le gr bd) s h e f T' U' → wX_moveFrom_13 post J (nI s) (nI h) (nI e) m (nI (f + 1)) (nI c) fc (tp_I pr) (tp_I so) (tp_I ta) (tp_I rs) (tp_I sg) (tp_I le) (tp_I gr) (tp_I bd) (tp_I ur) fd ft us := by
      intro n' F' T' U' fc fd ft us A' O' L' d'
      refine ih (f + 1) n' F' T' U' fc fd ft us (by omega) (by omega) A' O' (fun f' hf' => ?_) (fun n2 F2 T2 U2 fc fd ft us A2 O2 L2 d2 => p n2 F2 T2 U2 fc fd ft us A2 O2 (rc_Le_tr L' L2) d2)
      by_cases w : f' = f
      · rw [w]; exact d'
      · exact rc_dn_le hh L' (dn f' (by omega))
    refine xm_isMove G (by omega) (by omega) (fun im => br_f (by decide) ?_) (fun im => br_t rfl (nm_r (nI_1 f) (next n F T U fc fd ft us A O rc_Le_rf (fun s' m' => absurd m'.2.2.1 im))))
    refine xm_allows G hs (by omega) (fun oe => br_f (by decide) ?_) (fun oe => br_t rfl (nm_r (nI_1 f) (next n F T U fc fd ft us A O rc_Le_rf (fun s' m' => absurd m'.2.2.2.1 oe))))
    refine xm_allows G hs (by omega) (fun of => br_f (by decide) ?_) (fun of => br_t rfl (nm_r (nI_1 f) (next n F T U fc fd ft us A O rc_Le_rf (fun s' m' => absurd m'.2.2.2.2.1 of))))
    refine xs_moveBy G A O hs he z R im oe of ?_
    intro n' F' T' U' fc fd ft us A' O' L' d'
    exact nm_r (nI_1 f) (next n' F' T' U' fc fd ft us A' O' L' d')
theorem xs_mf2 {post : SX → Prop} {lo h s : Nat} (G : tp_G c pr so ta rs sg le gr bd ur) (hs : s < 1024) (R : rc_R (tp_mv c pr so ta rs sg le gr bd) (tp_wt bd ur) s h) :
    ∀ (m e n : Nat) (F T U : Nat → Nat) (fc : Int32) (fd ft us : Nat → Int32), c - e < m → e ≤ c → rc_A rc_kx n F T U fc fd ft us → rc_Ok (tp_mv c pr so ta rs sg le gr bd) (tp_wt bd ur) lo h n F T U → (∀ e', e' < e → ∀ f', f' < c → rc_dn (tp_mv c pr so ta rs sg le gr bd) s h e' f' T U) →
    rc_go (tp_mv c pr so ta rs sg le gr bd) (tp_wt bd ur) rc_kx (xs_S c pr so ta rs sg le gr bd ur) post lo h n F T U (fun T' U' => ∀ e', e' < c → ∀ f', f' < c → rc_dn (tp_mv c pr so ta rs sg le gr bd) s h e' f' T' U') →
    wX_moveFrom_2 post (nI s) (nI h) m (nI e) (nI c) fc (tp_I pr) (tp_I so) (tp_I ta) (tp_I rs) (tp_I sg) (tp_I le) (tp_I gr) (tp_I bd) (tp_I ur) fd ft us := by
  have c12 := G.1
  intro m
  induction m with
  | zero => intro e n F T U fc fd ft us h1; omega
  | succ m ih =>
    intro e n F T U fc fd ft us h1 h2 A O dn p
    have hh : h ≤ 20 := O.2.1
    refine pk_le c e (fun z => p n F T U fc fd ft us A O rc_Le_rf (fun e' he' => dn e' (by omega))) (fun z => ⟨c + 1, ?_⟩)
    refine xs_mf13 G hs z R (c + 1) 0 n F T U fc fd ft us (by omega) (by omega) A O (fun f' hf' => absurd hf' (by omega)) ?_
    intro n' F' T' U' fc fd ft us A' O' L' d'
    refine ih (e + 1) n' F' T' U' fc fd ft us (by omega) (by omega) A' O' (fun e' he' f' hf' => ?_) (fun n2 F2 T2 U2 fc fd ft us A2 O2 L2 d2 => p n2 F2 T2 U2 fc fd ft us A2 O2 (rc_Le_tr L' L2) d2)
    by_cases w : e' = e
    · rw [w]; exact d' f' hf'
    · exact rc_dn_le hh L' (dn e' (by omega) f' hf')
theorem xs_moveFrom {post : SX → Prop} {lo h n s : Nat} {F T U : Nat → Nat} {fc : Int32} {fd ft us : Nat → Int32} (G : tp_G c pr so ta rs sg le gr bd ur) (A : rc_A rc_kx n F T U fc fd ft us) (O : rc_Ok (tp_mv c pr so ta rs sg le gr bd) (tp_wt bd ur) lo h n F T U) (hs : s < 1024) (R : rc_R (tp_mv c pr so ta rs sg le gr bd) (tp_wt bd ur) s h)
    (p : rc_go (tp_mv c pr so ta rs sg le gr bd) (tp_wt bd ur) rc_kx (xs_S c pr so ta rs sg le gr bd ur) post lo h n F T U (fun T' U' => ∀ e f, rc_dn (tp_mv c pr so ta rs sg le gr bd) s h e f T' U')) : wpX_moveFrom post (xs_S c pr so ta rs sg le gr bd ur fc fd ft us) (nI s) (nI h) := by
  refine ⟨c + 1, xs_mf2 G hs R (c + 1) 0 n F T U fc fd ft us (by omega) (by omega) A O (fun f' hf' => absurd hf' (by omega)) ?_⟩
  intro n' F' T' U' fc fd ft us A' O' L' d'
  exact p n' F' T' U' fc fd ft us A' O' L' (fun e f s' m => d' e m.1 f m.2.1 s' m)
theorem xs_wf2 {post : SX → Prop} {s h k m : Nat} {fc : Int32} {fd ft us : Nat → Int32} (G : tp_G c pr so ta rs sg le gr bd ur) (hs : s < 1024) (hk : k < 2) (ok : ur (4 * k + tp_pl s k) = 0 → wX_waitFrom_2 post (nI s) (nI h) (nI c) fc (tp_I pr) (tp_I so) (tp_I ta) (tp_I rs) (tp_I sg) (tp_I le) (tp_I gr) (tp_I bd) (tp_I ur) fd ft us m (nI (k + 1))) (bad : ¬ ur (4 * k + tp_pl s k) = 0 → post (xs_S c pr so ta rs sg le gr bd ur fc fd ft us)) :
    wX_waitFrom_2 post (nI s) (nI h) (nI c) fc (tp_I pr) (tp_I so) (tp_I ta) (tp_I rs) (tp_I sg) (tp_I le) (tp_I gr) (tp_I bd) (tp_I ur) fd ft us (m + 1) (nI k) := by
  have hl := tp_pl_lt s k
  have gu := G.2.2.2.2.2.2.2.2.2 (4 * k + tp_pl s k)
  refine pk_le 2 k (fun z => by omega) (fun _ => ?_)
  refine xm_location hs hk ?_
  rw [bx_4, nI_clamp (by omega)]
  exact ⟨vp_in_nI (by omega) (by omega), pk_eq (ur (4 * k + tp_pl s k)) 0 (fun z => nm_r (nI_1 k) (ok z)) (fun z => bad z)⟩
theorem xs_wf37 {post : SX → Prop} {s h a k m : Nat} {fc : Int32} {fd ft us : Nat → Int32} (hs : s < 1024) (ha : a < 1024) (hk : k < 2) (ok : wX_waitFrom_37 post (nI s) (nI h) (nI c) fc (tp_I pr) (tp_I so) (tp_I ta) (tp_I rs) (tp_I sg) (tp_I le) (tp_I gr) (tp_I bd) (tp_I ur) fd ft us m (nI (tp_wc a k (tp_in (tp_ck s k)))) (nI (k + 1))) :
    wX_waitFrom_37 post (nI s) (nI h) (nI c) fc (tp_I pr) (tp_I so) (tp_I ta) (tp_I rs) (tp_I sg) (tp_I le) (tp_I gr) (tp_I bd) (tp_I ur) fd ft us (m + 1) (nI a) (nI k) := by
  have hc := tp_ck_lt s k
  refine pk_le 2 k (fun z => by omega) (fun _ => ?_)
  refine xm_clock hs hk ?_
  refine pk_le 7 (tp_ck s k) (fun z => ?_) (fun z => ?_)
  · unfold tp_in at ok
    rw [if_neg (by omega)] at ok
    exact xm_withClock (v := 7) ha hk (by omega) (nm_r (nI_1 k) ok)
  · unfold tp_in at ok
    rw [if_pos (by omega)] at ok
    rw [nI_1]
    exact xm_withClock ha hk (by omega) (nm_r (nI_1 k) ok)
theorem xs_waitFrom {post : SX → Prop} {lo h n s : Nat} {F T U : Nat → Nat} {fc : Int32} {fd ft us : Nat → Int32} (G : tp_G c pr so ta rs sg le gr bd ur) (A : rc_A rc_kx n F T U fc fd ft us) (O : rc_Ok (tp_mv c pr so ta rs sg le gr bd) (tp_wt bd ur) lo (h + 1) n F T U) (hs : s < 1024) (R : rc_R (tp_mv c pr so ta rs sg le gr bd) (tp_wt bd ur) s h)
    (p : rc_go (tp_mv c pr so ta rs sg le gr bd) (tp_wt bd ur) rc_kx (xs_S c pr so ta rs sg le gr bd ur) post lo (h + 1) n F T U (fun T' _ => ∀ s', (tp_wt bd ur) s s' → T' s' ≤ h + 1)) : wpX_waitFrom post (xs_S c pr so ta rs sg le gr bd ur fc fd ft us) (nI s) (nI h) := by
  have hh : h + 1 ≤ 20 := O.2.1
  have l0 := tp_ck_lt s 0
  have e0 : 4 * 0 + tp_pl s 0 = tp_pl s 0 := by omega
  refine ⟨0 + 1 + 1 + 1, ?_⟩
  refine xs_wf2 (k := 0) G hs (by omega) (fun u0 => ?_) (fun u0 => p _ _ _ _ _ _ _ _ A O rc_Le_rf (fun s' w => ?_))
  · refine xs_wf2 (k := 1) G hs (by omega) (fun u1 => ?_) (fun u1 => p _ _ _ _ _ _ _ _ A O rc_Le_rf (fun s' w => absurd w.2.1 u1))
    refine br_t (by decide) ⟨0 + 1 + 1 + 1, ?_⟩
    refine xs_wf37 (k := 0) hs hs (by omega) ?_
    refine xs_wf37 (k := 1) hs (tp_wc_lt (tp_in_lt _)) (by omega) ?_
    have ew : tp_wc (tp_wc s 0 (tp_in (tp_ck s 0))) 1 (tp_in (tp_ck s 1)) = tp_wo s := (tp_wo_x s).symm
    rw [ew]
    refine br_t (by decide) ?_
    refine xm_keepsBounds G (tp_wo_lt s) (fun kb => br_f (by decide) ?_) (fun kb => br_t rfl (p _ _ _ _ _ _ _ _ A O rc_Le_rf ?_))
    · rw [e0] at u0
      have w : (tp_wt bd ur) s (tp_wo s) := ⟨u0, u1, rfl, kb⟩
      rw [nI_1]
      refine xs_note A O (tp_wo_lt s) (rc_Rw _ _ R (by omega) w) ?_
      intro n' F' T' U' fc fd ft us A' O' L' d'
      refine p n' F' T' U' fc fd ft us A' O' L' (fun s' w' => ?_)
      rw [w'.2.2.1]; exact d'
    · intro s' w'
      obtain ⟨_, _, w3, w4⟩ := w'
      rw [w3] at w4
      exact absurd w4 kb
  · rw [e0] at u0
    exact absurd w.1 u0
end
