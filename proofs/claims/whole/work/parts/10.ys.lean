/-! the reference's search, in its own code of states -/
theorem ty_inj {s t : Nat} (hs : s < 1024) (ht : t < 1024) (h : tp_ph s = tp_ph t) : s = t := by
  rw [← (tp_ps_ph hs).2, ← (tp_ps_ph ht).2, h]
theorem rc_T21 {mv : Nat → Nat → Nat → Nat → Prop} {wt : Nat → Nat → Prop} {lo h n : Nat} {F T U : Nat → Nat} (O : rc_Ok mv wt lo h n F T U) {s : Nat} (hs : s < 1024) : T s ≤ 21 := by
  by_cases z : T s = 21
  · omega
  · have a := rc_Ok_T _ _ O hs z
    have b : h ≤ 20 := O.2.1
    omega
theorem rc_U21 {mv : Nat → Nat → Nat → Nat → Prop} {wt : Nat → Nat → Prop} {lo h n : Nat} {F T U : Nat → Nat} (O : rc_Ok mv wt lo h n F T U) (e : Nat) : U e ≤ 21 := by
  by_cases z : U e = 21
  · omega
  · have a := rc_Ok_U _ _ O z
    have b : h ≤ 20 := O.2.1
    omega
section
variable {c : Nat} {pr so ta rs sg le gr bd ur : Nat → Nat}
theorem ys_use {post : SY → Prop} {lo h n e : Nat} {F T U : Nat → Nat} {fc : Int32} {fd ft us : Nat → Int32} (A : rc_A rc_ky n F T U fc fd ft us) (O : rc_Ok (rc_mY (tp_mv c pr so ta rs sg le gr bd) tp_ph) (rc_wY (tp_wt bd ur) tp_ph) lo h n F T U) (he : e < 12) (V : rc_V (rc_mY (tp_mv c pr so ta rs sg le gr bd) tp_ph) (rc_wY (tp_wt bd ur) tp_ph) e h)
    (p : rc_go (rc_mY (tp_mv c pr so ta rs sg le gr bd) tp_ph) (rc_wY (tp_wt bd ur) tp_ph) rc_ky (ys_S c pr so ta rs sg le gr bd ur) post lo h n F T U (fun _ U' => U' e ≤ h)) : wpY_use post (ys_S c pr so ta rs sg le gr bd ur fc fd ft us) (nI e) (nI h) := by
  have hh : h ≤ 20 := O.2.1
  have hu := rc_U21 O e
  unfold wpY_use
  dsimp only
  rw [nI_clamp (show e < 2 ^ 31 by omega), A.2.2.2 e he]
  refine ⟨vp_in_nI he (by omega), pk_le (U e) h (fun z => p _ _ _ _ _ _ _ _ A O rc_Le_rf z) (fun z => ⟨vp_in_nI he (by omega), nm_e ?_⟩)⟩
  have z' : U e = 21 := by
    by_cases w : U e = 21
    · exact w
    · have := rc_Ok_U _ _ O w
      omega
  obtain ⟨O', L⟩ := rc_use _ _ O z' V
  exact p _ _ _ _ _ _ _ _ (rc_A_use A rfl) O' L (Nat.le_of_eq rc_us)
theorem ys_meet {post : SY → Prop} {lo h n q : Nat} {F T U : Nat → Nat} {fc : Int32} {fd ft us : Nat → Int32} (G : tp_G c pr so ta rs sg le gr bd ur) (A : rc_A rc_ky n F T U fc fd ft us) (O : rc_Ok (rc_mY (tp_mv c pr so ta rs sg le gr bd) tp_ph) (rc_wY (tp_wt bd ur) tp_ph) lo h n F T U) (hq : q < 1024) (R : tp_kb bd (tp_ph q) → rc_R (rc_mY (tp_mv c pr so ta rs sg le gr bd) tp_ph) (rc_wY (tp_wt bd ur) tp_ph) q h)
    (p : rc_go (rc_mY (tp_mv c pr so ta rs sg le gr bd) tp_ph) (rc_wY (tp_wt bd ur) tp_ph) rc_ky (ys_S c pr so ta rs sg le gr bd ur) post lo h n F T U (fun T' _ => tp_kb bd (tp_ph q) → T' q ≤ h)) : wpY_meet post (ys_S c pr so ta rs sg le gr bd ur fc fd ft us) (nI q) (nI h) := by
  have A0 := A
  obtain ⟨rfl, a2, a3, a4⟩ := A
  have hh : h ≤ 20 := O.2.1
  have ht := rc_T21 O hq
  have n1 := rc_Ok_n _ _ O
  unfold wpY_meet
  dsimp only
  rw [nI_clamp (show q < 2 ^ 31 by omega), nI_clamp (show n < 2 ^ 31 by omega), a3 q hq]
  refine ⟨vp_in_nI hq (by omega), pk_le (T q) h (fun z => p _ _ _ _ _ _ _ _ A0 O rc_Le_rf (fun _ => z)) (fun z => pk_lt 20 h (fun w => absurd w (by omega)) (fun _ => ?_))⟩
  have z' : T q = 21 := by
    by_cases w : T q = 21
    · exact w
    · have := rc_Ok_T _ _ O hq w
      omega
  refine ym_inBounds G hq (fun kb => br_f (by decide) ?_) (fun kb => br_t rfl (p _ _ _ _ _ _ _ _ A0 O rc_Le_rf (fun k => absurd k kb)))
  obtain ⟨hn, O', L⟩ := rc_note _ _ O hq z' (R kb)
  refine ⟨vp_in_nI hq (by omega), nm_e ⟨vp_in_nI hn (by omega), nm_e (nm_r (nI_1 n) ?_)⟩⟩
  exact p _ _ _ _ _ _ _ _ (rc_A_note A0 rfl) O' L (fun _ => Nat.le_of_eq rc_us)
theorem ys_s40 {post : SY → Prop} {lo h n q t : Nat} {F T U : Nat → Nat} {fc : Int32} {fd ft us : Nat → Int32} (G : tp_G c pr so ta rs sg le gr bd ur) (A : rc_A rc_ky n F T U fc fd ft us) (O : rc_Ok (rc_mY (tp_mv c pr so ta rs sg le gr bd) tp_ph) (rc_wY (tp_wt bd ur) tp_ph) lo h n F T U) (hq : q < 1024) (hT : T q = h) (ht : t < 1024) (R : tp_kb bd (tp_ph t) → rc_R (rc_mY (tp_mv c pr so ta rs sg le gr bd) tp_ph) (rc_wY (tp_wt bd ur) tp_ph) t h)
    (p : rc_go (rc_mY (tp_mv c pr so ta rs sg le gr bd) tp_ph) (rc_wY (tp_wt bd ur) tp_ph) rc_ky (ys_S c pr so ta rs sg le gr bd ur) post lo h n F T U (fun T' _ => tp_kb bd (tp_ph t) → T' t ≤ h)) : wY_silent_40 post (nI q) (nI t) (nI c) fc (tp_I pr) (tp_I so) (tp_I ta) (tp_I rs) (tp_I sg) (tp_I le) (tp_I gr) (tp_I bd) (tp_I ur) ft fd us := by
  unfold wY_silent_40
  rw [nI_clamp (show q < 2 ^ 31 by omega), A.2.2.1 q hq, hT]
  exact ⟨vp_in_nI hq (by omega), ys_meet G A O ht R (fun n' F' T' U' fc fd ft us A' O' L' d' => p n' F' T' U' fc fd ft us A' O' L' d')⟩
theorem ys_j69 {post : SY → Prop} {lo h n q t : Nat} {F T U : Nat → Nat} {fc : Int32} {fd ft us : Nat → Int32} (G : tp_G c pr so ta rs sg le gr bd ur) (A : rc_A rc_ky n F T U fc fd ft us) (O : rc_Ok (rc_mY (tp_mv c pr so ta rs sg le gr bd) tp_ph) (rc_wY (tp_wt bd ur) tp_ph) lo h n F T U) (hq : q < 1024) (hT : T q = h) (ht : t < 1024) (R : tp_kb bd (tp_ph t) → rc_R (rc_mY (tp_mv c pr so ta rs sg le gr bd) tp_ph) (rc_wY (tp_wt bd ur) tp_ph) t h)
    (p : rc_go (rc_mY (tp_mv c pr so ta rs sg le gr bd) tp_ph) (rc_wY (tp_wt bd ur) tp_ph) rc_ky (ys_S c pr so ta rs sg le gr bd ur) post lo h n F T U (fun T' _ => tp_kb bd (tp_ph t) → T' t ≤ h)) : wY_joint_69 post (nI q) (nI t) (nI c) fc (tp_I pr) (tp_I so) (tp_I ta) (tp_I rs) (tp_I sg) (tp_I le) (tp_I gr) (tp_I bd) (tp_I ur) ft fd us := by
  unfold wY_joint_69
  rw [nI_clamp (show q < 2 ^ 31 by omega), A.2.2.1 q hq, hT]
  exact ⟨vp_in_nI hq (by omega), ys_meet G A O ht R (fun n' F' T' U' fc fd ft us A' O' L' d' => p n' F' T' U' fc fd ft us A' O' L' d')⟩
theorem ys_silent {post : SY → Prop} {lo h n q e : Nat} {F T U : Nat → Nat} {fc : Int32} {fd ft us : Nat → Int32} (G : tp_G c pr so ta rs sg le gr bd ur) (A : rc_A rc_ky n F T U fc fd ft us) (O : rc_Ok (rc_mY (tp_mv c pr so ta rs sg le gr bd) tp_ph) (rc_wY (tp_wt bd ur) tp_ph) lo h n F T U) (hq : q < 1024) (hT : T q = h) (R : rc_R (rc_mY (tp_mv c pr so ta rs sg le gr bd) tp_ph) (rc_wY (tp_wt bd ur) tp_ph) q h) (he : e < c) (oe : tp_op pr so le gr e (tp_ph q)) (se : sg e = 0)
    (p : rc_go (rc_mY (tp_mv c pr so ta rs sg le gr bd) tp_ph) (rc_wY (tp_wt bd ur) tp_ph) rc_ky (ys_S c pr so ta rs sg le gr bd ur) post lo h n F T U (rc_dn (rc_mY (tp_mv c pr so ta rs sg le gr bd) tp_ph) q h e e)) : wpY_silent post (ys_S c pr so ta rs sg le gr bd ur fc fd ft us) (nI e) (nI q) := by
  have c12 := G.1
  have hh : h ≤ 20 := O.2.1
  have gt := G.2.2.2.1 e
  have gr' := G.2.2.2.2.1 e
  have l1 := (ty_mo_p pr ta gt hq).1
  have l2 := (ty_cl_p (set := rs e) l1).1
  have es : tp_ph (ty_cl (ty_mo pr ta e q) (rs e)) = tp_fo pr ta rs e (tp_fo pr ta rs e (tp_ph q)) := by rw [tp_fo2 pr ta rs gt]; exact ty_silent pr ta rs gt hq
  have only : ∀ s', (rc_mY (tp_mv c pr so ta rs sg le gr bd) tp_ph) e e q s' → s' = ty_cl (ty_mo pr ta e q) (rs e) ∧ tp_kb bd (tp_ph (ty_cl (ty_mo pr ta e q) (rs e))) := by
    intro s' m
    obtain ⟨m0, _, _, _, _, _, m6, m7⟩ := m
    have e1 := ty_inj m0 l2 (m6.trans es.symm)
    rw [e1] at m7
    exact ⟨e1, m7⟩
  have mk : tp_kb bd (tp_ph (ty_cl (ty_mo pr ta e q) (rs e))) → (rc_mY (tp_mv c pr so ta rs sg le gr bd) tp_ph) e e q (ty_cl (ty_mo pr ta e q) (rs e)) := fun kb => ⟨l2, he, he, Or.inl ⟨rfl, se⟩, oe, oe, es, kb⟩
  unfold wpY_silent
  dsimp only
  refine ym_moved G hq (by omega) ⟨vp_in_nI (by omega) (by omega), ?_⟩
  rw [nI_clamp (show e < 2 ^ 31 by omega), nI_clamp (show q < 2 ^ 31 by omega), A.2.2.1 q hq, hT]
  refine ym_cleared l1 gr' ?_
  refine ym_inBounds G l2 (fun kb => br_f (by decide) ⟨vp_in_nI hq (by omega), ?_⟩) (fun kb => br_t rfl (ys_s40 G A O hq hT l2 (fun k => absurd k kb) ?_))
  · refine ys_use A O (by omega) ⟨e, q, _, R, Or.inl (mk kb)⟩ ?_
    intro n1 F1 T1 U1 fc fd ft us A1 O1 L1 d1
    refine ys_s40 G A1 O1 hq (by rw [L1.2.2.1 q (by omega)]; exact hT) l2 (fun k => rc_Rm _ _ R (mk k)) ?_
    intro n2 F2 T2 U2 fc fd ft us A2 O2 L2 d2
    refine p n2 F2 T2 U2 fc fd ft us A2 O2 (rc_Le_tr L1 L2) ?_
    intro s' m
    rw [(only s' m).1]
    have u1 : U1 e ≤ h := d1
    have u2 : U2 e ≤ h := by rw [L2.2.2.2 e (by omega)]; exact u1
    exact ⟨d2 kb, u2, u2⟩
  · intro n1 F1 T1 U1 fc fd ft us A1 O1 L1 d1
    exact p n1 F1 T1 U1 fc fd ft us A1 O1 L1 (fun s' m => absurd (only s' m).2 kb)
theorem ys_joint {post : SY → Prop} {lo h n q e f : Nat} {F T U : Nat → Nat} {fc : Int32} {fd ft us : Nat → Int32} (G : tp_G c pr so ta rs sg le gr bd ur) (A : rc_A rc_ky n F T U fc fd ft us) (O : rc_Ok (rc_mY (tp_mv c pr so ta rs sg le gr bd) tp_ph) (rc_wY (tp_wt bd ur) tp_ph) lo h n F T U) (hq : q < 1024) (hT : T q = h) (R : rc_R (rc_mY (tp_mv c pr so ta rs sg le gr bd) tp_ph) (rc_wY (tp_wt bd ur) tp_ph) q h) (he : e < c) (hf : f < c) (oe : tp_op pr so le gr e (tp_ph q)) (of : tp_op pr so le gr f (tp_ph q)) (pa : ty_pa pr sg e f)
    (p : rc_go (rc_mY (tp_mv c pr so ta rs sg le gr bd) tp_ph) (rc_wY (tp_wt bd ur) tp_ph) rc_ky (ys_S c pr so ta rs sg le gr bd ur) post lo h n F T U (rc_dn (rc_mY (tp_mv c pr so ta rs sg le gr bd) tp_ph) q h e f)) : wpY_joint post (ys_S c pr so ta rs sg le gr bd ur fc fd ft us) (nI e) (nI f) (nI q) := by
  have c12 := G.1
  have hh : h ≤ 20 := O.2.1
  have gt := G.2.2.2.1
  have gr' := G.2.2.2.2.1
  have l1 := (ty_mo_p pr ta (gt e) hq).1
  have l2 := (ty_mo_p pr ta (gt f) l1).1
  have ro := (ty_or (rs e) (gr' e) (rs f) (gr' f)).2.2
  have l3 := (ty_cl_p (set := rs e ||| rs f) l2).1
  have es : tp_ph (ty_cl (ty_mo pr ta f (ty_mo pr ta e q)) (rs e ||| rs f)) = tp_fo pr ta rs f (tp_fo pr ta rs e (tp_ph q)) := ty_joint pr ta rs gt gr' hq
  have hne : e ≠ f := by
    intro z
    have a := pa.1
    have b := pa.2.1
    rw [z] at a
    omega
  have only : ∀ s', (rc_mY (tp_mv c pr so ta rs sg le gr bd) tp_ph) e f q s' → s' = ty_cl (ty_mo pr ta f (ty_mo pr ta e q)) (rs e ||| rs f) ∧ tp_kb bd (tp_ph (ty_cl (ty_mo pr ta f (ty_mo pr ta e q)) (rs e ||| rs f))) := by
    intro s' m
    obtain ⟨m0, _, _, _, _, _, m6, m7⟩ := m
    have e1 := ty_inj m0 l3 (m6.trans es.symm)
    rw [e1] at m7
    exact ⟨e1, m7⟩
  have mk : tp_kb bd (tp_ph (ty_cl (ty_mo pr ta f (ty_mo pr ta e q)) (rs e ||| rs f))) → (rc_mY (tp_mv c pr so ta rs sg le gr bd) tp_ph) e f q (ty_cl (ty_mo pr ta f (ty_mo pr ta e q)) (rs e ||| rs f)) := fun kb => ⟨l3, he, hf, Or.inr ⟨hne, pa⟩, oe, of, es, kb⟩
  unfold wpY_joint
  dsimp only
  refine ym_moved G hq (by omega) ?_
  refine ym_moved G l1 (by omega) ⟨vp_in_nI (by omega) (by omega), vp_in_nI (by omega) (by omega), ?_⟩
  rw [nI_clamp (show e < 2 ^ 31 by omega), nI_clamp (show f < 2 ^ 31 by omega), nI_clamp (show q < 2 ^ 31 by omega), A.2.2.1 q hq, hT, show tp_I rs e ||| tp_I rs f = nI (rs e ||| rs f) from bx_or _ _]
  refine ym_cleared l2 ro ?_
  refine ym_inBounds G l3 (fun kb => br_f (by decide) ⟨vp_in_nI hq (by omega), ?_⟩) (fun kb => br_t rfl (ys_j69 G A O hq hT l3 (fun k => absurd k kb) ?_))
  · refine ys_use A O (by omega) ⟨f, q, _, R, Or.inl (mk kb)⟩ ?_
    intro n1 F1 T1 U1 fc1 fd1 ft1 us1 A1 O1 L1 d1
    have hT1 : T1 q = h := by rw [L1.2.2.1 q (by omega)]; exact hT
    have e9 : ft1 q = nI h := by rw [A1.2.2.1 q hq, hT1]; rfl
    refine ⟨vp_in_nI hq (by omega), ?_⟩
    show wpY_use _ _ (nI f) (ft1 q)
    rw [e9]
    refine ys_use A1 O1 (by omega) ⟨e, q, _, R, Or.inr (mk kb)⟩ ?_
    intro n2 F2 T2 U2 fc2 fd2 ft2 us2 A2 O2 L2 d2
    refine ys_j69 G A2 O2 hq (by rw [L2.2.2.1 q (by omega)]; exact hT1) l3 (fun k => rc_Rm _ _ R (mk k)) ?_
    intro n3 F3 T3 U3 fc3 fd3 ft3 us3 A3 O3 L3 d3
    refine p n3 F3 T3 U3 fc3 fd3 ft3 us3 A3 O3 (rc_Le_tr L1 (rc_Le_tr L2 L3)) ?_
    intro s' m
    rw [(only s' m).1]
    have u1 : U1 e ≤ h := d1
    have u2 : U2 f ≤ h := d2
    refine ⟨d3 kb, ?_, ?_⟩
    · rw [(rc_Le_tr L2 L3).2.2.2 e (by omega)]; exact u1
    · rw [L3.2.2.2 f (by omega)]; exact u2
  · intro n1 F1 T1 U1 fc fd ft us A1 O1 L1 d1
    exact p n1 F1 T1 U1 fc fd ft us A1 O1 L1 (fun s' m => absurd (only s' m).2 kb)
end
