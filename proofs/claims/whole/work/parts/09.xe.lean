/-! the component's explore -/
section
variable {c : Nat} {pr so ta rs sg le gr bd ur : Nat → Nat}
theorem xe_62 {post : SX → Prop} {J : Int32 → Int32 → Int32 → Int32 → (Nat → Int32) → (Nat → Int32) → (Nat → Int32) → (Nat → Int32) → (Nat → Int32) → (Nat → Int32) → (Nat → Int32) → (Nat → Int32) → (Nat → Int32) → (Nat → Int32) → (Nat → Int32) → (Nat → Int32) → Prop} {h lo b : Nat} (G : tp_G c pr so ta rs sg le gr bd ur) (hh : h < 20) (hb : b ≤ 1024)
    (p : ∀ (n : Nat) (F T U : Nat → Nat) (fc : Int32) (fd ft us : Nat → Int32), rc_A rc_kx n F T U fc fd ft us → rc_Ok (tp_mv c pr so ta rs sg le gr bd) (tp_wt bd ur) b (h + 1) n F T U → (∀ j, j < b → rc_Dm (tp_mv c pr so ta rs sg le gr bd) F T U j ∧ rc_Dw (tp_wt bd ur) F T j) → T 0 = 0 → J (nI b) (nI (h + 1)) (nI c) fc (tp_I pr) (tp_I so) (tp_I ta) (tp_I rs) (tp_I sg) (tp_I le) (tp_I gr) (tp_I bd) (tp_I ur) fd ft us) :
    ∀ (m i n : Nat) (F T U : Nat → Nat) (fc : Int32) (fd ft us : Nat → Int32), b - i < m → lo ≤ i → i ≤ b → rc_A rc_kx n F T U fc fd ft us → rc_Ok (tp_mv c pr so ta rs sg le gr bd) (tp_wt bd ur) b (h + 1) n F T U → (∀ j, lo ≤ j → j < b → T (F j) = h) → (∀ j, j < b → rc_Dm (tp_mv c pr so ta rs sg le gr bd) F T U j) → (∀ j, j < i → rc_Dw (tp_wt bd ur) F T j) → T 0 = 0 →
    wX_explore_62 post J (nI h) (nI b) m (nI i) (nI c) fc (tp_I pr) (tp_I so) (tp_I ta) (tp_I rs) (tp_I sg) (tp_I le) (tp_I gr) (tp_I bd) (tp_I ur) fd ft us := by
  intro m
  induction m with
  | zero => intro i n F T U fc fd ft us h1; omega
  | succ m ih =>
    intro i n F T U fc fd ft us h1 h2 h3 A O eq dm dw t0
    have hbn : b ≤ n := O.2.2.1
    refine pk_le b i (fun z => nm_r (nI_1 h) (p n F T U fc fd ft us A O (fun j hj => ⟨dm j hj, dw j (by omega)⟩) t0)) (fun z => ?_)
    refine pk_le 20 h (fun w => absurd w (by omega)) (fun _ => ?_)
    have hF := (O.2.2.2.1 i (by omega)).1
    have hR := (O.2.2.2.1 i (by omega)).2.2
    rw [eq i h2 z] at hR
    rw [nI_clamp (show i < 2 ^ 31 by omega), A.2.1 i (by omega)]
    refine ⟨vp_in_nI (by omega) (by omega), xs_waitFrom G A O hF hR ?_⟩
    intro n' F' T' U' fc fd ft us A' O' L' d'
    refine nm_r (nI_1 i) (ih (i + 1) n' F' T' U' fc fd ft us (by omega) (by omega) (by omega) A' O' (fun j hj hj' => ?_) (fun j hj => rc_Dm_le _ _ O L' (by omega) (dm j hj)) (fun j hj => ?_) ?_)
    · rw [L'.2.1 j (by omega), L'.2.2.1 _ (by rw [eq j hj hj']; omega)]; exact eq j hj hj'
    · by_cases w : j = i
      · intro s' _ w'
        have e1 : F' j = F i := by rw [w]; exact L'.2.1 i (by omega)
        rw [e1] at w' ⊢
        rw [L'.2.2.1 (F i) (by rw [eq i h2 z]; omega), eq i h2 z]
        exact d' s' w'
      · exact rc_Dw_le _ _ O L' (by omega) (dw j (by omega))
    · rw [L'.2.2.1 0 (by omega)]; exact t0
theorem xe_62e {post : SX → Prop} {J : Int32 → Int32 → Int32 → Int32 → (Nat → Int32) → (Nat → Int32) → (Nat → Int32) → (Nat → Int32) → (Nat → Int32) → (Nat → Int32) → (Nat → Int32) → (Nat → Int32) → (Nat → Int32) → (Nat → Int32) → (Nat → Int32) → (Nat → Int32) → Prop} {i b m : Nat} {fc : Int32} {fd ft us : Nat → Int32}
    (p : J (nI b) (nI 21) (nI c) fc (tp_I pr) (tp_I so) (tp_I ta) (tp_I rs) (tp_I sg) (tp_I le) (tp_I gr) (tp_I bd) (tp_I ur) fd ft us) : wX_explore_62 post J (nI 20) (nI b) (m + 1) (nI i) (nI c) fc (tp_I pr) (tp_I so) (tp_I ta) (tp_I rs) (tp_I sg) (tp_I le) (tp_I gr) (tp_I bd) (tp_I ur) fd ft us :=
  br_c (fun _ => nm_r (nI_1 20) p) (fun _ => br_t (by decide) (nm_r (nI_1 20) p))
theorem xe_22 {post : SX → Prop} {J : Int32 → Int32 → Int32 → Int32 → (Nat → Int32) → (Nat → Int32) → (Nat → Int32) → (Nat → Int32) → (Nat → Int32) → (Nat → Int32) → (Nat → Int32) → (Nat → Int32) → (Nat → Int32) → (Nat → Int32) → (Nat → Int32) → (Nat → Int32) → Prop} {h lo : Nat} (G : tp_G c pr so ta rs sg le gr bd ur)
    (p : ∀ (n : Nat) (F T U : Nat → Nat) (fd ft us : Nat → Int32), rc_A rc_kx n F T U (nI n) fd ft us → rc_Ok (tp_mv c pr so ta rs sg le gr bd) (tp_wt bd ur) lo h n F T U → (∀ j, j < n → rc_Dm (tp_mv c pr so ta rs sg le gr bd) F T U j) → (∀ j, j < lo → rc_Dw (tp_wt bd ur) F T j) → T 0 = 0 → ∃ n62, wX_explore_62 post J (nI h) (nI n) n62 (nI lo) (nI c) (nI n) (tp_I pr) (tp_I so) (tp_I ta) (tp_I rs) (tp_I sg) (tp_I le) (tp_I gr) (tp_I bd) (tp_I ur) fd ft us) :
    ∀ (m i n : Nat) (F T U : Nat → Nat) (fc : Int32) (fd ft us : Nat → Int32), 1024 - i < m → lo ≤ i → i ≤ n → rc_A rc_kx n F T U fc fd ft us → rc_Ok (tp_mv c pr so ta rs sg le gr bd) (tp_wt bd ur) lo h n F T U → (∀ j, j < i → rc_Dm (tp_mv c pr so ta rs sg le gr bd) F T U j) → (∀ j, j < lo → rc_Dw (tp_wt bd ur) F T j) → T 0 = 0 →
    wX_explore_22 post J (nI lo) (nI h) m (nI i) (nI c) fc (tp_I pr) (tp_I so) (tp_I ta) (tp_I rs) (tp_I sg) (tp_I le) (tp_I gr) (tp_I bd) (tp_I ur) fd ft us := by
  intro m
  induction m with
  | zero => intro i n F T U fc fd ft us h1; omega
  | succ m ih =>
    intro i n F T U fc fd ft us h1 h2 h3 A O dm dw t0
    have hn := rc_Ok_n _ _ O
    have hfc := A.1
    subst hfc
    have out : n ≤ i → ∃ n62, wX_explore_62 post J (nI h) (nI n) n62 (nI lo) (nI c) (nI n) (tp_I pr) (tp_I so) (tp_I ta) (tp_I rs) (tp_I sg) (tp_I le) (tp_I gr) (tp_I bd) (tp_I ur) fd ft us := fun z => p n F T U fd ft us A O (fun j hj => dm j (by omega)) dw t0
    refine pk_le 1024 i (fun z => out (by omega)) (fun _ => ?_)
    refine pk_le n i (fun z => out z) (fun z => ?_)
    have hF := (O.2.2.2.1 i z).1
    have hR := (O.2.2.2.1 i z).2.2
    have hT : T (F i) = h := O.2.2.2.2.1 i h2 z
    have h20 : h ≤ 20 := O.2.1
    rw [hT] at hR
    rw [nI_clamp (show i < 2 ^ 31 by omega), A.2.1 i z]
    refine ⟨vp_in_nI (by omega) (by omega), xs_moveFrom G A O hF hR ?_⟩
    intro n' F' T' U' fc fd ft us A' O' L' d'
    have hl := L'.1
    refine nm_r (nI_1 i) (ih (i + 1) n' F' T' U' fc fd ft us (by omega) (by omega) (by omega) A' O' (fun j hj => ?_) (fun j hj => rc_Dw_le _ _ O L' (by omega) (dw j hj)) ?_)
    · by_cases w : j = i
      · intro e f s' m'
        have e1 : F' j = F i := by rw [w]; exact L'.2.1 i z
        rw [e1] at m' ⊢
        rw [L'.2.2.1 (F i) (by omega), hT]
        exact d' e f s' m'
      · exact rc_Dm_le _ _ O L' (by omega) (dm j (by omega))
    · rw [L'.2.2.1 0 (by omega)]; exact t0
theorem xe_14 {post : SX → Prop} (G : tp_G c pr so ta rs sg le gr bd ur)
    (p : ∀ (lo n : Nat) (F T U : Nat → Nat) (fc : Int32) (fd ft us : Nat → Int32), rc_A rc_kx n F T U fc fd ft us → rc_Ok (tp_mv c pr so ta rs sg le gr bd) (tp_wt bd ur) lo 20 n F T U → rc_Fin (tp_mv c pr so ta rs sg le gr bd) (tp_wt bd ur) T U → post (xs_S c pr so ta rs sg le gr bd ur fc fd ft us)) :
    ∀ (m h lo n : Nat) (F T U : Nat → Nat) (fc : Int32) (fd ft us : Nat → Int32), 21 - h < m → h ≤ 20 → rc_A rc_kx n F T U fc fd ft us → rc_Ok (tp_mv c pr so ta rs sg le gr bd) (tp_wt bd ur) lo h n F T U → (∀ j, j < lo → rc_Dm (tp_mv c pr so ta rs sg le gr bd) F T U j ∧ rc_Dw (tp_wt bd ur) F T j) → T 0 = 0 →
    wX_explore_14 post m (nI lo) (nI h) (nI c) fc (tp_I pr) (tp_I so) (tp_I ta) (tp_I rs) (tp_I sg) (tp_I le) (tp_I gr) (tp_I bd) (tp_I ur) fd ft us := by
  intro m
  induction m with
  | zero => intro h lo n F T U fc fd ft us h1; omega
  | succ m ih =>
    intro h lo n F T U fc fd ft us h1 h2 A O d t0
    refine pk_lt 20 h (fun z => absurd z (by omega)) (fun _ => ⟨1025 + 1, ?_⟩)
    refine xe_22 G ?_ (1025 + 1) lo n F T U fc fd ft us (by omega) (Nat.le_refl lo) O.2.2.1 A O (fun j hj => (d j hj).1) (fun j hj => (d j hj).2) t0
    intro n F T U fd ft us A O dm dw t0
    have hn := rc_Ok_n _ _ O
    by_cases z : h = 20
    · subst z
      obtain ⟨m', rfl⟩ : ∃ m', m = m' + 1 := ⟨m - 1, by omega⟩
      refine ⟨0 + 1, xe_62e (br_t (by decide) (p lo n F T U _ _ _ _ A O ?_))⟩
      refine rc_fin _ _ (fun e f s s' _ mm => tp_mv_lt c pr so ta rs sg le gr bd G.2.2.2.1 mm) (fun s s' _ w => tp_wt_lt bd ur w) O t0 (fun i hi => ⟨dm i hi, ?_⟩)
      by_cases w : i < lo
      · exact dw i w
      · intro s' h' _
        rw [O.2.2.2.2.1 i (by omega) hi] at h'
        omega
    · refine ⟨n + 1, xe_62 (lo := lo) G (by omega) hn ?_ (n + 1) lo n F T U _ fd ft us (by omega) (Nat.le_refl lo) O.2.2.1 A (rc_next _ _ O (by omega)) (fun j h1 h2 => O.2.2.2.2.1 j h1 h2) dm dw t0⟩
      intro n' F' T' U' fc fd ft us A' O' d' t'
      exact ih (h + 1) n n' F' T' U' fc fd ft us (by omega) (by omega) A' O' d' t'
theorem xe_30 {post : SX → Prop} {fc : Int32} {fd ft : Nat → Int32} (p : ∀ us : Nat → Int32, (∀ e, e < 12 → us e = -4) → post (xs_S c pr so ta rs sg le gr bd ur fc fd ft us)) :
    ∀ (m i : Nat) (us : Nat → Int32), 12 - i < m → i ≤ 12 → (∀ e, e < i → us e = -4) → wX_forget_30 post (nI c) fc m (nI i) (tp_I pr) (tp_I so) (tp_I ta) (tp_I rs) (tp_I sg) (tp_I le) (tp_I gr) (tp_I bd) (tp_I ur) fd ft us := by
  intro m
  induction m with
  | zero => intro i us h1; omega
  | succ m ih =>
    intro i us h1 h2 d
    refine pk_le 12 i (fun z => p us (fun e he => d e (by omega))) (fun z => ?_)
    rw [nI_clamp (show i < 2 ^ 31 by omega)]
    refine ⟨vp_in_nI z (by omega), nm_e (nm_r (nI_1 i) (ih (i + 1) _ (by omega) (by omega) (fun e he => ?_)))⟩
    by_cases w : e = i
    · rw [w, pk_us]
    · rw [pk_un w]; exact d e (by omega)
theorem xe_7 {post : SX → Prop} {fc : Int32} {fd us : Nat → Int32} (p : ∀ ft us : Nat → Int32, (∀ s, s < 1024 → ft s = -4) → (∀ e, e < 12 → us e = -4) → post (xs_S c pr so ta rs sg le gr bd ur fc fd ft us)) :
    ∀ (m i : Nat) (ft : Nat → Int32), 1024 - i < m → i ≤ 1024 → (∀ e, e < i → ft e = -4) → wX_forget_7 post (nI c) fc m (nI i) (tp_I pr) (tp_I so) (tp_I ta) (tp_I rs) (tp_I sg) (tp_I le) (tp_I gr) (tp_I bd) (tp_I ur) fd ft us := by
  intro m
  induction m with
  | zero => intro i ft h1; omega
  | succ m ih =>
    intro i ft h1 h2 d
    refine pk_le 1024 i (fun z => ⟨12 + 1, xe_30 (fun us hu => p ft us (fun s hs => d s (by omega)) hu) (12 + 1) 0 us (by omega) (by omega) (fun e he => absurd he (by omega))⟩) (fun z => ?_)
    rw [nI_clamp (show i < 2 ^ 31 by omega)]
    refine ⟨vp_in_nI z (by omega), nm_e (nm_r (nI_1 i) (ih (i + 1) _ (by omega) (by omega) (fun e he => ?_)))⟩
    by_cases w : e = i
    · rw [w, pk_us]
    · rw [pk_un w]; exact d e (by omega)
theorem xe_explore {post : SX → Prop} (G : tp_G c pr so ta rs sg le gr bd ur) {fc : Int32} {fd ft us : Nat → Int32}
    (p : ∀ (lo n : Nat) (F T U : Nat → Nat) (fc : Int32) (fd ft us : Nat → Int32), rc_A rc_kx n F T U fc fd ft us → rc_Ok (tp_mv c pr so ta rs sg le gr bd) (tp_wt bd ur) lo 20 n F T U → rc_Fin (tp_mv c pr so ta rs sg le gr bd) (tp_wt bd ur) T U → post (xs_S c pr so ta rs sg le gr bd ur fc fd ft us)) : wpX_explore post (xs_S c pr so ta rs sg le gr bd ur fc fd ft us) := by
  unfold wpX_explore wpX_forget
  dsimp only
  refine ⟨1024 + 1, xe_7 ?_ (1024 + 1) 0 ft (by omega) (by omega) (fun e he => absurd he (by omega))⟩
  intro ft us h1 h2
  refine xs_note (n := 0) (F := fun _ => 0) (T := fun _ => 21) (U := fun _ => 21) (lo := 0) (s := 0) (h := 0) ⟨rfl, fun i hi => absurd hi (by omega), fun s hs => h1 s hs, fun e he => h2 e he⟩ (rc_begin _ _ (fun _ _ => rfl) (fun _ => rfl)) (by omega) (rc_R0 _ _) ?_
  intro n' F' T' U' fc fd ft us A' O' L' d'
  exact ⟨21 + 1, xe_14 G p (21 + 1) 0 0 n' F' T' U' fc fd ft us (by omega) (by omega) A' O' (fun j hj => absurd hj (by omega)) (by have : T' 0 ≤ 0 := d'; omega)⟩
end
