/-! the reference's work -/
/-- the state behind a wait, in the reference's code -/
def ty_wo (q : Nat) : Nat := q / 64 * 64 + 8 * tp_in (q / 8 % 8) + tp_in (q % 8)
theorem ty_wo_p {q : Nat} (hq : q < 1024) : ty_wo q < 1024 ∧ tp_ph (ty_wo q) = tp_wo (tp_ph q) := by
  have key : ∀ a b : Nat, a < 8 → b < 8 → q / 64 * 64 + 8 * a + b < 1024 ∧ (q / 64 * 64 + 8 * a + b) / 64 % 4 = q / 64 % 4 ∧ (q / 64 * 64 + 8 * a + b) / 256 % 4 = q / 256 % 4 ∧ (q / 64 * 64 + 8 * a + b) / 8 % 8 = a ∧ (q / 64 * 64 + 8 * a + b) % 8 = b := by
    intro a b ha hb; omega
  obtain ⟨k0, k1, k2, k3, k4⟩ := key (tp_in (q / 8 % 8)) (tp_in (q % 8)) (tp_in_lt _) (tp_in_lt _)
  obtain ⟨p1, p2, p3, p4⟩ := tp_ph_p q
  refine ⟨k0, ?_⟩
  show tp_mk _ _ _ _ = tp_mk _ _ _ _
  rw [p1, p2, p3, p4]
  unfold ty_wo
  rw [k1, k2, k3, k4]
section
variable {c : Nat} {pr so ta rs sg le gr bd ur : Nat → Nat}
theorem ys_m36 {post : SY → Prop} {J : Int32 → Int32 → Int32 → (Nat → Int32) → (Nat → Int32) → (Nat → Int32) → (Nat → Int32) → (Nat → Int32) → (Nat → Int32) → (Nat → Int32) → (Nat → Int32) → (Nat → Int32) → (Nat → Int32) → (Nat → Int32) → (Nat → Int32) → Prop} {lo h q e : Nat} (G : tp_G c pr so ta rs sg le gr bd ur) (hq : q < 1024) (he : e < c) (R : rc_R (rc_mY (tp_mv c pr so ta rs sg le gr bd) tp_ph) (rc_wY (tp_wt bd ur) tp_ph) q h) (oe : tp_op pr so le gr e (tp_ph q)) :
    ∀ (m f n : Nat) (F T U : Nat → Nat) (fc : Int32) (fd ft us : Nat → Int32), c - f < m → f ≤ c → rc_A rc_ky n F T U fc fd ft us → rc_Ok (rc_mY (tp_mv c pr so ta rs sg le gr bd) tp_ph) (rc_wY (tp_wt bd ur) tp_ph) lo h n F T U → T q = h → rc_dn (rc_mY (tp_mv c pr so ta rs sg le gr bd) tp_ph) q h e e T U → (∀ f', f' < f → rc_dn (rc_mY (tp_mv c pr so ta rs sg le gr bd) tp_ph) q h e f' T U) →
    (∀ (n' : Nat) (F' T' U' : Nat → Nat) (fc : Int32) (fd ft us : Nat → Int32), rc_A rc_ky n' F' T' U' fc fd ft us → rc_Ok (rc_mY (tp_mv c pr so ta rs sg le gr bd) tp_ph) (rc_wY (tp_wt bd ur) tp_ph) lo h n' F' T' U' → rc_Le n F T U n' F' T' U' → (∀ f', f' < c → rc_dn (rc_mY (tp_mv c pr so ta rs sg le gr bd) tp_ph) q h e f' T' U') → J (nI (e + 1)) (nI c) fc (tp_I pr) (tp_I so) (tp_I ta) (tp_I rs) (tp_I sg) (tp_I le) (tp_I gr) (tp_I bd) (tp_I ur) ft fd us) →
    wY_moves_36 post J (nI q) (nI e) m (nI f) (nI c) fc (tp_I pr) (tp_I so) (tp_I ta) (tp_I rs) (tp_I sg) (tp_I le) (tp_I gr) (tp_I bd) (tp_I ur) ft fd us := by
  have c12 := G.1
  intro m
  induction m with
  | zero => intro f n F T U fc fd ft us h1; omega
  | succ m ih =>
    intro f n F T U fc fd ft us h1 h2 A O hT d0 dn p
    have hh : h ≤ 20 := O.2.1
    refine pk_le c f (fun z => nm_r (nI_1 e) (p n F T U fc fd ft us A O rc_Le_rf (fun f' hf' => dn f' (by omega)))) (fun z => ?_)
    have next : ∀ (n' : Nat) (F' T' U' : Nat → Nat) (fc : Int32) (fd ft us : Nat → Int32), rc_A rc_ky n' F' T' U' fc fd ft us → rc_Ok (rc_mY (tp_mv c pr so ta rs sg le gr bd) tp_ph) (rc_wY (tp_wt bd ur) tp_ph) lo h n' F' T' U' → rc_Le n F T U n' F' T' U' → rc_dn (rc_mY (tp_mv c pr so ta rs sg le gr bd) tp_ph) q h e f T' U' → wY_moves_36 post J (nI q) (nI e) m (nI (f + 1)) (nI c) fc (tp_I pr) (tp_I so) (tp_I ta) (tp_I rs) (tp_I sg) (tp_I le) (tp_I gr) (tp_I bd) (tp_I ur) ft fd us := by
      intro n' F' T' U' fc fd ft us A' O' L' d'
      refine ih (f + 1) n' F' T' U' fc fd ft us (by omega) (by omega) A' O' (by rw [L'.2.2.1 q (by omega)]; exact hT) (rc_dn_le hh L' d0) (fun f' hf' => ?_) (fun n2 F2 T2 U2 fc fd ft us A2 O2 L2 d2 => p n2 F2 T2 U2 fc fd ft us A2 O2 (rc_Le_tr L' L2) d2)
      by_cases w : f' = f
      · rw [w]; exact d'
      · exact rc_dn_le hh L' (dn f' (by omega))
    refine ym_partners G (by omega) (by omega) (fun pa => br_f (by decide) ?_) (fun pa => br_t rfl (nm_r (nI_1 f) (next n F T U fc fd ft us A O rc_Le_rf ?_)))
    · refine ym_open G hq (by omega) (fun of => br_f (by decide) ?_) (fun of => br_t rfl (nm_r (nI_1 f) (next n F T U fc fd ft us A O rc_Le_rf (fun s' m' => absurd m'.2.2.2.2.2.1 of))))
      refine ys_joint G A O hq hT R he z oe of pa ?_
      intro n' F' T' U' fc fd ft us A' O' L' d'
      exact nm_r (nI_1 f) (next n' F' T' U' fc fd ft us A' O' L' d')
    · intro s' m'
      rcases m'.2.2.2.1 with w | w
      · rw [← w.1] at m' ⊢
        exact d0 s' m'
      · exact absurd w.2 pa
theorem ys_m2 {post : SY → Prop} {lo h q : Nat} (G : tp_G c pr so ta rs sg le gr bd ur) (hq : q < 1024) (R : rc_R (rc_mY (tp_mv c pr so ta rs sg le gr bd) tp_ph) (rc_wY (tp_wt bd ur) tp_ph) q h) :
    ∀ (m e n : Nat) (F T U : Nat → Nat) (fc : Int32) (fd ft us : Nat → Int32), c - e < m → e ≤ c → rc_A rc_ky n F T U fc fd ft us → rc_Ok (rc_mY (tp_mv c pr so ta rs sg le gr bd) tp_ph) (rc_wY (tp_wt bd ur) tp_ph) lo h n F T U → T q = h → (∀ e', e' < e → ∀ f', f' < c → rc_dn (rc_mY (tp_mv c pr so ta rs sg le gr bd) tp_ph) q h e' f' T U) →
    rc_go (rc_mY (tp_mv c pr so ta rs sg le gr bd) tp_ph) (rc_wY (tp_wt bd ur) tp_ph) rc_ky (ys_S c pr so ta rs sg le gr bd ur) post lo h n F T U (fun T' U' => ∀ e', e' < c → ∀ f', f' < c → rc_dn (rc_mY (tp_mv c pr so ta rs sg le gr bd) tp_ph) q h e' f' T' U') →
    wY_moves_2 post (nI q) m (nI e) (nI c) fc (tp_I pr) (tp_I so) (tp_I ta) (tp_I rs) (tp_I sg) (tp_I le) (tp_I gr) (tp_I bd) (tp_I ur) ft fd us := by
  have c12 := G.1
  intro m
  induction m with
  | zero => intro e n F T U fc fd ft us h1; omega
  | succ m ih =>
    intro e n F T U fc fd ft us h1 h2 A O hT dn p
    have hh : h ≤ 20 := O.2.1
    have gs := G.2.2.2.2.2.1 e
    refine pk_le c e (fun z => p n F T U fc fd ft us A O rc_Le_rf (fun e' he' => dn e' (by omega))) (fun z => ?_)
    have next : ∀ (n' : Nat) (F' T' U' : Nat → Nat) (fc : Int32) (fd ft us : Nat → Int32), rc_A rc_ky n' F' T' U' fc fd ft us → rc_Ok (rc_mY (tp_mv c pr so ta rs sg le gr bd) tp_ph) (rc_wY (tp_wt bd ur) tp_ph) lo h n' F' T' U' → rc_Le n F T U n' F' T' U' → (∀ f', f' < c → rc_dn (rc_mY (tp_mv c pr so ta rs sg le gr bd) tp_ph) q h e f' T' U') → wY_moves_2 post (nI q) m (nI (e + 1)) (nI c) fc (tp_I pr) (tp_I so) (tp_I ta) (tp_I rs) (tp_I sg) (tp_I le) (tp_I gr) (tp_I bd) (tp_I ur) ft fd us := by
      intro n' F' T' U' fc fd ft us A' O' L' d'
      refine ih (e + 1) n' F' T' U' fc fd ft us (by omega) (by omega) A' O' (by rw [L'.2.2.1 q (by omega)]; exact hT) (fun e' he' f' hf' => ?_) (fun n2 F2 T2 U2 fc fd ft us A2 O2 L2 d2 => p n2 F2 T2 U2 fc fd ft us A2 O2 (rc_Le_tr L' L2) d2)
      by_cases w : e' = e
      · rw [w]; exact d' f' hf'
      · exact rc_dn_le hh L' (dn e' (by omega) f' hf')
    refine ym_open G hq (by omega) (fun oe => br_f (by decide) ⟨vp_in_nI (by omega) (by omega), ?_⟩) (fun oe => br_t rfl (nm_r (nI_1 e) (next n F T U fc fd ft us A O rc_Le_rf (fun f' hf' s' m' => absurd m'.2.2.2.2.1 oe))))
    rw [nI_clamp (show e < 2 ^ 31 by omega)]
    refine pk_eq (sg e) 0 (fun se => ?_) (fun se => ⟨c + 1, ?_⟩)
    · refine ys_silent G A O hq hT R z oe se ?_
      intro n1 F1 T1 U1 fc fd ft us A1 O1 L1 d1
      refine ⟨c + 1, ys_m36 G hq z R oe (c + 1) 0 n1 F1 T1 U1 fc fd ft us (by omega) (by omega) A1 O1 (by rw [L1.2.2.1 q (by omega)]; exact hT) d1 (fun f' hf' => absurd hf' (by omega)) ?_⟩
      intro n' F' T' U' fc fd ft us A' O' L' d'
      exact next n' F' T' U' fc fd ft us A' O' (rc_Le_tr L1 L') d'
    · refine ys_m36 G hq z R oe (c + 1) 0 n F T U fc fd ft us (by omega) (by omega) A O hT ?_ (fun f' hf' => absurd hf' (by omega)) next
      intro s' m'
      rcases m'.2.2.2.1 with w | w
      · exact absurd w.2 se
      · exact absurd rfl w.1
theorem ys_moves {post : SY → Prop} {lo h n q : Nat} {F T U : Nat → Nat} {fc : Int32} {fd ft us : Nat → Int32} (G : tp_G c pr so ta rs sg le gr bd ur) (A : rc_A rc_ky n F T U fc fd ft us) (O : rc_Ok (rc_mY (tp_mv c pr so ta rs sg le gr bd) tp_ph) (rc_wY (tp_wt bd ur) tp_ph) lo h n F T U) (hq : q < 1024) (hT : T q = h) (R : rc_R (rc_mY (tp_mv c pr so ta rs sg le gr bd) tp_ph) (rc_wY (tp_wt bd ur) tp_ph) q h)
    (p : rc_go (rc_mY (tp_mv c pr so ta rs sg le gr bd) tp_ph) (rc_wY (tp_wt bd ur) tp_ph) rc_ky (ys_S c pr so ta rs sg le gr bd ur) post lo h n F T U (fun T' U' => ∀ e f, rc_dn (rc_mY (tp_mv c pr so ta rs sg le gr bd) tp_ph) q h e f T' U')) : wpY_moves post (ys_S c pr so ta rs sg le gr bd ur fc fd ft us) (nI q) := by
  refine ⟨c + 1, ys_m2 G hq R (c + 1) 0 n F T U fc fd ft us (by omega) (by omega) A O hT (fun f' hf' => absurd hf' (by omega)) ?_⟩
  intro n' F' T' U' fc fd ft us A' O' L' d'
  exact p n' F' T' U' fc fd ft us A' O' L' (fun e f s' m => d' e m.2.1 f m.2.2.1 s' m)
theorem ys_w75 {post : SY → Prop} {q a x y : Nat} {fc : Int32} {fd ft us : Nat → Int32} (hy : y < 8) (ok : wY_waits_93 post (nI q) (nI (tp_in y)) (nI (a + 8 * x)) (nI c) fc (tp_I pr) (tp_I so) (tp_I ta) (tp_I rs) (tp_I sg) (tp_I le) (tp_I gr) (tp_I bd) (tp_I ur) ft fd us) : wY_waits_75 post (nI q) (nI y) (nI x) 8 (nI a) (nI c) fc (tp_I pr) (tp_I so) (tp_I ta) (tp_I rs) (tp_I sg) (tp_I le) (tp_I gr) (tp_I bd) (tp_I ur) ft fd us := by
  unfold wY_waits_75
  rw [show nI a + 8 * nI x = nI (a + 8 * x) from by rw [show (8 : Int32) = nI 8 from rfl, pk_mul, nI_add]]
  unfold tp_in at ok
  refine pk_le 7 y (fun z => ?_) (fun z => ?_)
  · rw [if_neg (by omega)] at ok
    exact ok
  · rw [if_pos (by omega)] at ok
    rw [nI_1]
    exact ok
theorem ys_ww {post : SY → Prop} {q : Nat} {fc : Int32} {fd ft us : Nat → Int32} (G : tp_G c pr so ta rs sg le gr bd ur) (hq : q < 1024) (bad : ¬ (ur (tp_pl (tp_ph q) 0) = 0 ∧ ur (4 + tp_pl (tp_ph q) 1) = 0) → post (ys_S c pr so ta rs sg le gr bd ur fc fd ft us))
    (ok : ur (tp_pl (tp_ph q) 0) = 0 → ur (4 + tp_pl (tp_ph q) 1) = 0 → wY_waits_93 post (nI q) (nI (tp_in (q % 8))) (nI (q / 64 * 64 + 8 * tp_in (q / 8 % 8))) (nI c) fc (tp_I pr) (tp_I so) (tp_I ta) (tp_I rs) (tp_I sg) (tp_I le) (tp_I gr) (tp_I bd) (tp_I ur) ft fd us) : wpY_waits post (ys_S c pr so ta rs sg le gr bd ur fc fd ft us) (nI q) := by
  have l0 := tp_pl_lt (tp_ph q) 0
  have l1 := tp_pl_lt (tp_ph q) 1
  have e0 : 4 * 0 + tp_pl (tp_ph q) 0 = tp_pl (tp_ph q) 0 := by omega
  have e1 : 4 * 1 + tp_pl (tp_ph q) 1 = 4 + tp_pl (tp_ph q) 1 := by omega
  have g0 := G.2.2.2.2.2.2.2.2.2 (tp_pl (tp_ph q) 0)
  have g1 := G.2.2.2.2.2.2.2.2.2 (4 + tp_pl (tp_ph q) 1)
  unfold wpY_waits
  dsimp only
  refine ym_placeOf (p := 0) hq (by omega) ?_
  refine ym_placeOf (p := 1) hq (by omega) ?_
  rw [e0, e1, nI_clamp (by omega), nI_clamp (by omega)]
  refine ⟨vp_in_nI (by omega) (by omega), pk_eq (ur (tp_pl (tp_ph q) 0)) 0 (fun u0 => ⟨vp_in_nI (by omega) (by omega), pk_eq (ur (4 + tp_pl (tp_ph q) 1)) 0 (fun u1 => ?_) (fun u1 => bad (fun o => u1 o.2))⟩) (fun u0 => bad (fun o => u0 o.1))⟩
  refine ym_value (k := 0) hq (by omega) ?_
  refine ym_value (k := 1) hq (by omega) ?_
  have v0 : tp_ck (tp_ph q) 0 = q / 8 % 8 := (tp_ph_p q).2.2.1
  have v1 : tp_ck (tp_ph q) 1 = q % 8 := (tp_ph_p q).2.2.2
  rw [v0, v1]
  refine ⟨by decide, ?_⟩
  rw [show nI q / 64 * 64 = nI (q / 64 * 64) from by rw [show (64 : Int32) = nI 64 from rfl, pk_div (by omega) (by omega) (by omega), pk_mul]]
  have ok' := ok u0 u1
  refine pk_le 7 (q / 8 % 8) (fun z => ?_) (fun z => ?_)
  · rw [show tp_in (q / 8 % 8) = 7 from if_neg (by omega)] at ok'
    exact ys_w75 (x := 7) (by omega) ok'
  · rw [show tp_in (q / 8 % 8) = q / 8 % 8 + 1 from if_pos (by omega)] at ok'
    rw [nI_1]
    exact ys_w75 (by omega) ok'
theorem ys_waits {post : SY → Prop} {lo h n q : Nat} {F T U : Nat → Nat} {fc : Int32} {fd ft us : Nat → Int32} (G : tp_G c pr so ta rs sg le gr bd ur) (A : rc_A rc_ky n F T U fc fd ft us) (O : rc_Ok (rc_mY (tp_mv c pr so ta rs sg le gr bd) tp_ph) (rc_wY (tp_wt bd ur) tp_ph) lo (h + 1) n F T U) (hq : q < 1024) (hT : T q = h) (R : rc_R (rc_mY (tp_mv c pr so ta rs sg le gr bd) tp_ph) (rc_wY (tp_wt bd ur) tp_ph) q h)
    (p : rc_go (rc_mY (tp_mv c pr so ta rs sg le gr bd) tp_ph) (rc_wY (tp_wt bd ur) tp_ph) rc_ky (ys_S c pr so ta rs sg le gr bd ur) post lo (h + 1) n F T U (fun T' _ => ∀ s', (rc_wY (tp_wt bd ur) tp_ph) q s' → T' s' ≤ h + 1)) : wpY_waits post (ys_S c pr so ta rs sg le gr bd ur fc fd ft us) (nI q) := by
  have hh : h + 1 ≤ 20 := O.2.1
  obtain ⟨w0, w1⟩ := ty_wo_p hq
  refine ys_ww G hq (fun u => p _ _ _ _ _ _ _ _ A O rc_Le_rf (fun s' w => absurd ⟨w.2.1, w.2.2.1⟩ u)) (fun u0 u1 => ?_)
  unfold wY_waits_93
  rw [nI_clamp (show q < 2 ^ 31 by omega), A.2.2.1 q hq, hT, show rc_ky h + 1 = nI (h + 1) from nI_1 h, nI_add]
  have mk : tp_kb bd (tp_ph (ty_wo q)) → (rc_wY (tp_wt bd ur) tp_ph) q (ty_wo q) := fun kb => ⟨w0, u0, u1, w1, kb⟩
  refine ⟨vp_in_nI hq (by omega), ys_meet (q := ty_wo q) G A O w0 (fun kb => rc_Rw _ _ R (by omega) (mk kb)) ?_⟩
  intro n' F' T' U' fc fd ft us A' O' L' d'
  refine p n' F' T' U' fc fd ft us A' O' L' (fun s' w => ?_)
  have e1 : s' = ty_wo q := ty_inj w.1 w0 (w.2.2.2.1.trans w1.symm)
  have kb := w.2.2.2.2
  rw [e1] at kb ⊢
  exact d' kb
theorem ys_waits20 {post : SY → Prop} {lo n q : Nat} {F T U : Nat → Nat} {fc : Int32} {fd ft us : Nat → Int32} (G : tp_G c pr so ta rs sg le gr bd ur) (A : rc_A rc_ky n F T U fc fd ft us) (O : rc_Ok (rc_mY (tp_mv c pr so ta rs sg le gr bd) tp_ph) (rc_wY (tp_wt bd ur) tp_ph) lo 20 n F T U) (hq : q < 1024) (hT : T q = 20)
    (p : post (ys_S c pr so ta rs sg le gr bd ur fc fd ft us)) : wpY_waits post (ys_S c pr so ta rs sg le gr bd ur fc fd ft us) (nI q) := by
  obtain ⟨w0, w1⟩ := ty_wo_p hq
  refine ys_ww G hq (fun _ => p) (fun u0 u1 => ?_)
  unfold wY_waits_93 wpY_meet
  dsimp only
  rw [nI_clamp (show q < 2 ^ 31 by omega), A.2.2.1 q hq, hT, show rc_ky 20 + 1 = nI 21 from nI_1 20, nI_add, show q / 64 * 64 + 8 * tp_in (q / 8 % 8) + tp_in (q % 8) = ty_wo q from rfl, nI_clamp (show ty_wo q < 2 ^ 31 by omega), A.2.2.1 _ w0]
  exact ⟨vp_in_nI hq (by omega), vp_in_nI w0 (by omega), br_t (nI_le (rc_T21 O w0) (by omega)) p⟩
theorem ye_95 {post : SY → Prop} {J : Int32 → Int32 → Int32 → Int32 → (Nat → Int32) → (Nat → Int32) → (Nat → Int32) → (Nat → Int32) → (Nat → Int32) → (Nat → Int32) → (Nat → Int32) → (Nat → Int32) → (Nat → Int32) → (Nat → Int32) → (Nat → Int32) → (Nat → Int32) → Prop} {h lo b : Nat} (G : tp_G c pr so ta rs sg le gr bd ur) (hh : h < 20) (hb : b ≤ 1024)
    (p : ∀ (n : Nat) (F T U : Nat → Nat) (fc : Int32) (fd ft us : Nat → Int32), rc_A rc_ky n F T U fc fd ft us → rc_Ok (rc_mY (tp_mv c pr so ta rs sg le gr bd) tp_ph) (rc_wY (tp_wt bd ur) tp_ph) b (h + 1) n F T U → (∀ j, j < b → rc_Dm (rc_mY (tp_mv c pr so ta rs sg le gr bd) tp_ph) F T U j ∧ rc_Dw (rc_wY (tp_wt bd ur) tp_ph) F T j) → T 0 = 0 → J (nI b) (nI (h + 1)) (nI c) fc (tp_I pr) (tp_I so) (tp_I ta) (tp_I rs) (tp_I sg) (tp_I le) (tp_I gr) (tp_I bd) (tp_I ur) ft fd us) :
    ∀ (m i n : Nat) (F T U : Nat → Nat) (fc : Int32) (fd ft us : Nat → Int32), b - i < m → lo ≤ i → i ≤ b → rc_A rc_ky n F T U fc fd ft us → rc_Ok (rc_mY (tp_mv c pr so ta rs sg le gr bd) tp_ph) (rc_wY (tp_wt bd ur) tp_ph) b (h + 1) n F T U → (∀ j, lo ≤ j → j < b → T (F j) = h) → (∀ j, j < b → rc_Dm (rc_mY (tp_mv c pr so ta rs sg le gr bd) tp_ph) F T U j) → (∀ j, j < i → rc_Dw (rc_wY (tp_wt bd ur) tp_ph) F T j) → T 0 = 0 →
    wY_work_95 post J (nI b) (nI h) m (nI i) (nI c) fc (tp_I pr) (tp_I so) (tp_I ta) (tp_I rs) (tp_I sg) (tp_I le) (tp_I gr) (tp_I bd) (tp_I ur) ft fd us := by
  intro m
  induction m with
  | zero => intro i n F T U fc fd ft us h1; omega
  | succ m ih =>
    intro i n F T U fc fd ft us h1 h2 h3 A O eq dm dw t0
    have hbn : b ≤ n := O.2.2.1
    refine pk_le b i (fun z => nm_r (nI_1 h) (p n F T U fc fd ft us A O (fun j hj => ⟨dm j hj, dw j (by omega)⟩) t0)) (fun z => ?_)
    have hF := (O.2.2.2.1 i (by omega)).1
    have hR := (O.2.2.2.1 i (by omega)).2.2
    rw [eq i h2 z] at hR
    rw [nI_clamp (show i < 2 ^ 31 by omega), A.2.1 i (by omega)]
    refine ⟨vp_in_nI (by omega) (by omega), ys_waits G A O hF (eq i h2 z) hR ?_⟩
    intro n' F' T' U' fc fd ft us A' O' L' d'
    refine nm_r (nI_1 i) (ih (i + 1) n' F' T' U' fc fd ft us (by omega) (by omega) (by omega) A' O' (fun j hj hj' => ?_) (fun j hj => rc_Dm_le _ _ O L' (by omega) (dm j hj)) (fun j hj => ?_) ?_)
    · rw [L'.2.1 j (by omega), L'.2.2.1 _ (by rw [eq j hj hj']; omega)]; exact eq j hj hj'
    · by_cases w : j = i
      · intro s' _ w'
        have e1 : F' j = F i := by rw [w]; exact L'.2.1 i (by omega)
        rw [e1] at w' ⊢
        rw [L'.2.2.1 (F i) (by rw [eq i h2 z]; omega), eq i h2 z]
        exact d' s' w'
      · exact rc_Dw_le _ _ O L' (by omega) (dw j (by omega))
    · rw [L'.2.2.1 0 (by omega)]; exact t0
theorem ye_95e {post : SY → Prop} {J : Int32 → Int32 → Int32 → Int32 → (Nat → Int32) → (Nat → Int32) → (Nat → Int32) → (Nat → Int32) → (Nat → Int32) → (Nat → Int32) → (Nat → Int32) → (Nat → Int32) → (Nat → Int32) → (Nat → Int32) → (Nat → Int32) → (Nat → Int32) → Prop} {lo b n : Nat} {F T U : Nat → Nat} {fc : Int32} {fd ft us : Nat → Int32} (G : tp_G c pr so ta rs sg le gr bd ur) (A : rc_A rc_ky n F T U fc fd ft us) (O : rc_Ok (rc_mY (tp_mv c pr so ta rs sg le gr bd) tp_ph) (rc_wY (tp_wt bd ur) tp_ph) lo 20 n F T U) (hb : b ≤ n)
    (p : J (nI b) (nI 21) (nI c) fc (tp_I pr) (tp_I so) (tp_I ta) (tp_I rs) (tp_I sg) (tp_I le) (tp_I gr) (tp_I bd) (tp_I ur) ft fd us) : ∀ (m i : Nat), b - i < m → lo ≤ i → i ≤ b → wY_work_95 post J (nI b) (nI 20) m (nI i) (nI c) fc (tp_I pr) (tp_I so) (tp_I ta) (tp_I rs) (tp_I sg) (tp_I le) (tp_I gr) (tp_I bd) (tp_I ur) ft fd us := by
  have hn := rc_Ok_n _ _ O
  intro m
  induction m with
  | zero => intro i h1; omega
  | succ m ih =>
    intro i h1 h2 h3
    refine pk_le b i (fun z => nm_r (nI_1 20) p) (fun z => ?_)
    have hF := (O.2.2.2.1 i (by omega)).1
    rw [nI_clamp (show i < 2 ^ 31 by omega), A.2.1 i (by omega)]
    exact ⟨vp_in_nI (by omega) (by omega), ys_waits20 G A O hF (O.2.2.2.2.1 i h2 (by omega)) (nm_r (nI_1 i) (ih (i + 1) (by omega) (by omega) (by omega)))⟩
theorem ye_68 {post : SY → Prop} {J : Int32 → Int32 → Int32 → Int32 → (Nat → Int32) → (Nat → Int32) → (Nat → Int32) → (Nat → Int32) → (Nat → Int32) → (Nat → Int32) → (Nat → Int32) → (Nat → Int32) → (Nat → Int32) → (Nat → Int32) → (Nat → Int32) → (Nat → Int32) → Prop} {h lo : Nat} (G : tp_G c pr so ta rs sg le gr bd ur)
    (p : ∀ (n : Nat) (F T U : Nat → Nat) (fd ft us : Nat → Int32), rc_A rc_ky n F T U (nI n) fd ft us → rc_Ok (rc_mY (tp_mv c pr so ta rs sg le gr bd) tp_ph) (rc_wY (tp_wt bd ur) tp_ph) lo h n F T U → (∀ j, j < n → rc_Dm (rc_mY (tp_mv c pr so ta rs sg le gr bd) tp_ph) F T U j) → (∀ j, j < lo → rc_Dw (rc_wY (tp_wt bd ur) tp_ph) F T j) → T 0 = 0 → ∃ n95, wY_work_95 post J (nI n) (nI h) n95 (nI lo) (nI c) (nI n) (tp_I pr) (tp_I so) (tp_I ta) (tp_I rs) (tp_I sg) (tp_I le) (tp_I gr) (tp_I bd) (tp_I ur) ft fd us) :
    ∀ (m i n : Nat) (F T U : Nat → Nat) (fc : Int32) (fd ft us : Nat → Int32), 1024 - i < m → lo ≤ i → i ≤ n → rc_A rc_ky n F T U fc fd ft us → rc_Ok (rc_mY (tp_mv c pr so ta rs sg le gr bd) tp_ph) (rc_wY (tp_wt bd ur) tp_ph) lo h n F T U → (∀ j, j < i → rc_Dm (rc_mY (tp_mv c pr so ta rs sg le gr bd) tp_ph) F T U j) → (∀ j, j < lo → rc_Dw (rc_wY (tp_wt bd ur) tp_ph) F T j) → T 0 = 0 →
    wY_work_68 post J (nI h) (nI lo) m (nI i) (nI c) fc (tp_I pr) (tp_I so) (tp_I ta) (tp_I rs) (tp_I sg) (tp_I le) (tp_I gr) (tp_I bd) (tp_I ur) ft fd us := by
  intro m
  induction m with
  | zero => intro i n F T U fc fd ft us h1; omega
  | succ m ih =>
    intro i n F T U fc fd ft us h1 h2 h3 A O dm dw t0
    have hn := rc_Ok_n _ _ O
    have hfc := A.1
    subst hfc
    refine pk_le n i (fun z => ?_) (fun z => ?_)
    · have ei : i = n := by omega
      subst ei
      exact p i F T U fd ft us A O dm dw t0
    have hF := (O.2.2.2.1 i z).1
    have hR := (O.2.2.2.1 i z).2.2
    have hT : T (F i) = h := O.2.2.2.2.1 i h2 z
    have h20 : h ≤ 20 := O.2.1
    rw [hT] at hR
    rw [nI_clamp (show i < 2 ^ 31 by omega), A.2.1 i z]
    refine ⟨vp_in_nI (by omega) (by omega), ys_moves G A O hF hT hR ?_⟩
    intro n' F' T' U' fc fd ft us A' O' L' d'
    have hl := L'.1
    refine nm_r (nI_1 i) (ih (i + 1) n' F' T' U' fc fd ft us (by omega) (by omega) (by omega) A' O' (fun j hj => ?_) (fun j hj => rc_Dw_le _ _ O L' (by omega) (dw j hj)) ?_)
    · by_cases w : j = i
      · intro e f s' m'
        have e1 : F' j = F i := by rw [w]; exact L'.2.1 i z
        rw [e1] at m' ⊢
        rw [L'.2.2.1 (F i) (by omega), hT]
        exact d' e f s' m'
      · exact rc_Dm_le _ _ O L' (by omega) (dm j (by omega))
    · rw [L'.2.2.1 0 (by omega)]; exact t0
theorem ye_60 {post : SY → Prop} (G : tp_G c pr so ta rs sg le gr bd ur)
    (p : ∀ (lo n : Nat) (F T U : Nat → Nat) (fc : Int32) (fd ft us : Nat → Int32), rc_A rc_ky n F T U fc fd ft us → rc_Ok (rc_mY (tp_mv c pr so ta rs sg le gr bd) tp_ph) (rc_wY (tp_wt bd ur) tp_ph) lo 20 n F T U → rc_Fin (rc_mY (tp_mv c pr so ta rs sg le gr bd) tp_ph) (rc_wY (tp_wt bd ur) tp_ph) T U → post (ys_S c pr so ta rs sg le gr bd ur fc fd ft us)) :
    ∀ (m h lo n : Nat) (F T U : Nat → Nat) (fc : Int32) (fd ft us : Nat → Int32), 21 - h < m → h ≤ 20 → rc_A rc_ky n F T U fc fd ft us → rc_Ok (rc_mY (tp_mv c pr so ta rs sg le gr bd) tp_ph) (rc_wY (tp_wt bd ur) tp_ph) lo h n F T U → (∀ j, j < lo → rc_Dm (rc_mY (tp_mv c pr so ta rs sg le gr bd) tp_ph) F T U j ∧ rc_Dw (rc_wY (tp_wt bd ur) tp_ph) F T j) → T 0 = 0 →
    wY_work_60 post m (nI lo) (nI h) (nI c) fc (tp_I pr) (tp_I so) (tp_I ta) (tp_I rs) (tp_I sg) (tp_I le) (tp_I gr) (tp_I bd) (tp_I ur) ft fd us := by
  intro m
  induction m with
  | zero => intro h lo n F T U fc fd ft us h1; omega
  | succ m ih =>
    intro h lo n F T U fc fd ft us h1 h2 A O d t0
    refine pk_lt 20 h (fun z => absurd z (by omega)) (fun _ => ⟨1025 + 1, ?_⟩)
    refine ye_68 G ?_ (1025 + 1) lo n F T U fc fd ft us (by omega) (Nat.le_refl lo) O.2.2.1 A O (fun j hj => (d j hj).1) (fun j hj => (d j hj).2) t0
    intro n F T U fd ft us A O dm dw t0
    have hn := rc_Ok_n _ _ O
    by_cases z : h = 20
    · subst z
      obtain ⟨m', rfl⟩ : ∃ m', m = m' + 1 := ⟨m - 1, by omega⟩
      refine ⟨n + 1, ye_95e G A O (Nat.le_refl n) (br_t (by decide) (p lo n F T U _ _ _ _ A O ?_)) (n + 1) lo (by omega) (Nat.le_refl lo) O.2.2.1⟩
      refine rc_fin _ _ (fun e f s s' _ mm => mm.1) (fun s s' _ w => w.1) O t0 (fun i hi => ⟨dm i hi, ?_⟩)
      by_cases w : i < lo
      · exact dw i w
      · intro s' h' _
        rw [O.2.2.2.2.1 i (by omega) hi] at h'
        omega
    · refine ⟨n + 1, ye_95 (lo := lo) G (by omega) hn ?_ (n + 1) lo n F T U _ fd ft us (by omega) (Nat.le_refl lo) O.2.2.1 A (rc_next _ _ O (by omega)) (fun j h1 h2 => O.2.2.2.2.1 j h1 h2) dm dw t0⟩
      intro n' F' T' U' fc fd ft us A' O' d' t'
      exact ih (h + 1) n n' F' T' U' fc fd ft us (by omega) (by omega) A' O' d' t'
theorem ye_25 {post : SY → Prop} (G : tp_G c pr so ta rs sg le gr bd ur) {fc : Int32} {fd ft : Nat → Int32} (hf : ∀ s, s < 1024 → ft s = nI 21)
    (p : ∀ (lo n : Nat) (F T U : Nat → Nat) (fc : Int32) (fd ft us : Nat → Int32), rc_A rc_ky n F T U fc fd ft us → rc_Ok (rc_mY (tp_mv c pr so ta rs sg le gr bd) tp_ph) (rc_wY (tp_wt bd ur) tp_ph) lo 20 n F T U → rc_Fin (rc_mY (tp_mv c pr so ta rs sg le gr bd) tp_ph) (rc_wY (tp_wt bd ur) tp_ph) T U → post (ys_S c pr so ta rs sg le gr bd ur fc fd ft us)) :
    ∀ (m i : Nat) (us : Nat → Int32), 12 - i < m → i ≤ 12 → (∀ e, e < i → us e = nI 21) → wY_work_25 post (nI c) fc m (nI i) (tp_I pr) (tp_I so) (tp_I ta) (tp_I rs) (tp_I sg) (tp_I le) (tp_I gr) (tp_I bd) (tp_I ur) ft fd us := by
  intro m
  induction m with
  | zero => intro i us h1; omega
  | succ m ih =>
    intro i us h1 h2 d
    refine pk_le 12 i (fun z => ?_) (fun z => ?_)
    · refine ys_meet (n := 0) (F := fun _ => 0) (T := fun _ => 21) (U := fun _ => 21) (lo := 0) (q := 0) (h := 0) G ⟨rfl, fun i hi => absurd hi (by omega), fun s hs => hf s hs, fun e he => d e (by omega)⟩ (rc_begin _ _ (fun _ _ => rfl) (fun _ => rfl)) (by omega) (fun _ => rc_R0 _ _) ?_
      intro n' F' T' U' fc fd ft us A' O' L' d'
      have k0 : tp_kb bd (tp_ph 0) := ⟨⟨Nat.zero_le _, Nat.zero_le _⟩, ⟨Nat.zero_le _, Nat.zero_le _⟩⟩
      exact ⟨21 + 1, ye_60 G p (21 + 1) 0 0 n' F' T' U' fc fd ft us (by omega) (by omega) A' O' (fun j hj => absurd hj (by omega)) (by have : T' 0 ≤ 0 := d' k0; omega)⟩
    · rw [nI_clamp (show i < 2 ^ 31 by omega)]
      refine ⟨vp_in_nI z (by omega), nm_e (nm_r (nI_1 i) (ih (i + 1) _ (by omega) (by omega) (fun e he => ?_)))⟩
      by_cases w : e = i
      · rw [w, pk_us]; rfl
      · rw [pk_un w]; exact d e (by omega)
theorem ye_2 {post : SY → Prop} (G : tp_G c pr so ta rs sg le gr bd ur) {fc : Int32} {fd us : Nat → Int32}
    (p : ∀ (lo n : Nat) (F T U : Nat → Nat) (fc : Int32) (fd ft us : Nat → Int32), rc_A rc_ky n F T U fc fd ft us → rc_Ok (rc_mY (tp_mv c pr so ta rs sg le gr bd) tp_ph) (rc_wY (tp_wt bd ur) tp_ph) lo 20 n F T U → rc_Fin (rc_mY (tp_mv c pr so ta rs sg le gr bd) tp_ph) (rc_wY (tp_wt bd ur) tp_ph) T U → post (ys_S c pr so ta rs sg le gr bd ur fc fd ft us)) :
    ∀ (m i : Nat) (ft : Nat → Int32), 1024 - i < m → i ≤ 1024 → (∀ e, e < i → ft e = nI 21) → wY_work_2 post (nI c) fc m (nI i) (tp_I pr) (tp_I so) (tp_I ta) (tp_I rs) (tp_I sg) (tp_I le) (tp_I gr) (tp_I bd) (tp_I ur) ft fd us := by
  intro m
  induction m with
  | zero => intro i ft h1; omega
  | succ m ih =>
    intro i ft h1 h2 d
    refine pk_le 1024 i (fun z => ⟨12 + 1, ye_25 G (fun s hs => d s (by omega)) p (12 + 1) 0 us (by omega) (by omega) (fun e he => absurd he (by omega))⟩) (fun z => ?_)
    rw [nI_clamp (show i < 2 ^ 31 by omega)]
    refine ⟨vp_in_nI z (by omega), nm_e (nm_r (nI_1 i) (ih (i + 1) _ (by omega) (by omega) (fun e he => ?_)))⟩
    by_cases w : e = i
    · rw [w, pk_us]; rfl
    · rw [pk_un w]; exact d e (by omega)
theorem ye_work {post : SY → Prop} (G : tp_G c pr so ta rs sg le gr bd ur) {fc : Int32} {fd ft us : Nat → Int32}
    (p : ∀ (lo n : Nat) (F T U : Nat → Nat) (fc : Int32) (fd ft us : Nat → Int32), rc_A rc_ky n F T U fc fd ft us → rc_Ok (rc_mY (tp_mv c pr so ta rs sg le gr bd) tp_ph) (rc_wY (tp_wt bd ur) tp_ph) lo 20 n F T U → rc_Fin (rc_mY (tp_mv c pr so ta rs sg le gr bd) tp_ph) (rc_wY (tp_wt bd ur) tp_ph) T U → post (ys_S c pr so ta rs sg le gr bd ur fc fd ft us)) : wpY_work post (ys_S c pr so ta rs sg le gr bd ur fc fd ft us) :=
  ⟨1024 + 1, ye_2 G p (1024 + 1) 0 ft (by omega) (by omega) (fun e he => absurd he (by omega))⟩
end
