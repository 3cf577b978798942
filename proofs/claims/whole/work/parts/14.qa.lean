/-! what is read off the search, on both sides -/
theorem qa_p1 : ∀ q, q < 1024 → tp_ph q % 16 = q / 64 := by decide +kernel
theorem qa_p2 : ∀ s, s < 1024 → tp_ps s / 64 = s % 16 := by decide +kernel
/-- v is the least time of the pair, 21 if there is none -/
def qa_mn (T : Nat → Nat) (a v : Nat) : Prop := (∀ s, s < 1024 → s % 16 = a → v ≤ T s) ∧ (v = 21 ∨ (v ≤ 20 ∧ ∃ s, s < 1024 ∧ s % 16 = a ∧ T s = v))
theorem qa_uni {T : Nat → Nat} {a v w : Nat} (A : qa_mn T a v) (B : qa_mn T a w) : v = w := by
  obtain ⟨a1, a2⟩ := A
  obtain ⟨b1, b2⟩ := B
  rcases a2 with z | ⟨z, s, hs, es, ts⟩
  · rcases b2 with x | ⟨x, t, ht, et, tt⟩
    · rw [z, x]
    · have := a1 t ht et
      omega
  · have h1 := b1 s hs es
    rcases b2 with x | ⟨x, t, ht, et, tt⟩
    · omega
    · have h2 := a1 t ht et
      omega
theorem qa_ex {T : Nat → Nat} (hT : ∀ s, s < 1024 → T s ≤ 21) (a : Nat) : ∃ v, qa_mn T a v := by
  obtain ⟨v, hv, hl⟩ := pk_least (fun v => v = 21 ∨ ∃ s, s < 1024 ∧ s % 16 = a ∧ T s = v) ⟨21, Or.inl rfl⟩
  have le21 : v ≤ 21 := by
    by_cases z : v ≤ 21
    · exact z
    · exact absurd (Or.inl rfl) (hl 21 (by omega))
  refine ⟨v, fun s hs es => ?_, ?_⟩
  · by_cases z : v ≤ T s
    · exact z
    · exact absurd (Or.inr ⟨s, hs, es, rfl⟩) (hl (T s) (by omega))
  · by_cases z : v = 21
    · exact Or.inl z
    · rcases hv with w | w
      · exact absurd w z
      · exact Or.inr ⟨by omega, w⟩
theorem qa_le {T : Nat → Nat} {a v : Nat} (M : qa_mn T a v) : v ≤ 21 := by
  rcases M.2 with z | z <;> omega
/-- a state of the pair with the clock between low and high is found -/
def qa_hb (T : Nat → Nat) (a k low high : Nat) : Prop := ∃ s, s < 1024 ∧ T s ≠ 21 ∧ s % 16 = a ∧ low ≤ tp_ck s k ∧ tp_ck s k ≤ high
/-- m is the set of the locations of process p -/
def qa_L (T : Nat → Nat) (p m : Nat) : Prop := m < 16 ∧ ∀ l, l < 4 → (m.testBit l = true ↔ ∃ s, s < 1024 ∧ T s ≠ 21 ∧ tp_pl s p = l)
theorem qa_L_uni {T : Nat → Nat} {p m m' : Nat} (A : qa_L T p m) (B : qa_L T p m') : m = m' := by
  apply Nat.eq_of_testBit_eq
  intro i
  by_cases z : i < 4
  · have h1 := A.2 i z
    have h2 := B.2 i z
    rw [Bool.eq_iff_iff, h1, h2]
  · have hp : 2 ^ 4 ≤ 2 ^ i := Nat.pow_le_pow_right (by omega) (by omega)
    rw [Nat.testBit_lt_two_pow (Nat.lt_of_lt_of_le A.1 hp), Nat.testBit_lt_two_pow (Nat.lt_of_lt_of_le B.1 hp)]
theorem qa_or {m l i : Nat} (hm : m < 16) (hl : l < 4) : (m ||| 2 ^ l) < 16 ∧ ((m ||| 2 ^ l).testBit i = true ↔ (m.testBit i = true ∨ l = i)) := by
  constructor
  · exact Nat.or_lt_two_pow (n := 4) hm (Nat.lt_of_lt_of_le (Nat.pow_lt_pow_right (by omega) hl) (Nat.le_refl _))
  · rw [Nat.testBit_or, Nat.testBit_two_pow, Bool.or_eq_true, decide_eq_true_eq]
theorem qa_sh : ∀ l, l < 4 → ((1 : Int32) <<< (nI l &&& 31)) = nI (2 ^ l) := by decide +kernel
section
variable {c : Nat} {pr so ta rs sg le gr bd ur : Nat → Nat}
theorem qa_same (G : tp_G c pr so ta rs sg le gr bd ur) {T U T' U' : Nat → Nat} (A : rc_Fin (tp_mv c pr so ta rs sg le gr bd) (tp_wt bd ur) T U) (B : rc_Fin (rc_mY (tp_mv c pr so ta rs sg le gr bd) tp_ph) (rc_wY (tp_wt bd ur) tp_ph) T' U') : (∀ q, q < 1024 → T' q = T (tp_ph q)) ∧ (∀ e, U' e = U e) :=
  rc_same (tp_mv c pr so ta rs sg le gr bd) (tp_wt bd ur) tp_ph tp_ps tp_ph_0 tp_ps_0 (fun s hs => tp_ph_ps hs) (fun s hs => tp_ps_ph hs) (fun e f s s' _ mm => tp_mv_lt c pr so ta rs sg le gr bd G.2.2.2.1 mm) (fun s s' _ w => tp_wt_lt bd ur w) A B
variable {n : Nat} {F T U : Nat → Nat} {fc : Int32} {fd ft us : Nat → Int32} {lo : Nat}
theorem qa_fd (O : rc_Ok (tp_mv c pr so ta rs sg le gr bd) (tp_wt bd ur) lo 20 n F T U) {P : Nat → Prop} : (∃ s, s < 1024 ∧ T s ≠ 21 ∧ P s) ↔ ∃ i, i < n ∧ P (F i) := by
  constructor
  · rintro ⟨s, hs, ht, p⟩
    rcases O.2.2.2.2.2.1 s hs with z | ⟨i, hi, e⟩
    · exact absurd z ht
    · exact ⟨i, hi, by rw [e]; exact p⟩
  · rintro ⟨i, hi, p⟩
    have h := O.2.2.2.1 i hi
    exact ⟨F i, h.1, by have := h.2.1; omega, p⟩
theorem qa_and {s : Nat} (hs : s < 1024) : nI s &&& 15 = nI (s % 16) := pk_andN (by omega) 4 (by decide)
theorem qa_xl2 {post : Int32 → Prop} {a v : Nat} (A : rc_A rc_kx n F T U fc fd ft us) (O : rc_Ok (tp_mv c pr so ta rs sg le gr bd) (tp_wt bd ur) lo 20 n F T U) (ha : a < 16) (M : qa_mn T a v) (p : post (rc_kx v)) :
    ∀ m i, n - i < m → i ≤ n → (∀ j, j < i → F j % 16 ≠ a) → wX_leastTime_2 post (nI a) (nI c) fc (tp_I pr) (tp_I so) (tp_I ta) (tp_I rs) (tp_I sg) (tp_I le) (tp_I gr) (tp_I bd) (tp_I ur) fd ft us m (nI i) := by
  have hn := rc_Ok_n _ _ O
  obtain ⟨rfl, a2, a3, a4⟩ := A
  intro m
  induction m with
  | zero => intro i h; omega
  | succ m ih =>
    intro i h1 h2 h3
    refine pk_le n i (fun z => ?_) (fun z => ?_)
    · have e : v = 21 := by
        rcases M.2 with w | ⟨w, s, hs, es, ts⟩
        · exact w
        · obtain ⟨j, hj, ej⟩ := (qa_fd O (P := fun s => s % 16 = a)).mp ⟨s, hs, by omega, es⟩
          exact absurd ej (h3 j (by omega))
      rw [e] at p
      exact p
    · have hF := (O.2.2.2.1 i z).1
      have hT := (O.2.2.2.1 i z).2.1
      rw [nI_clamp (show i < 2 ^ 31 by omega), a2 i z, nI_clamp (show F i < 2 ^ 31 by omega)]
      refine ⟨vp_in_nI (by omega) (by omega), pk_eq (F i % 16) a (fun w => ?_) (fun w => nm_r (nI_1 i) (ih (i + 1) (by omega) (by omega) (fun j hj => ?_))) (qa_and hF)⟩
      · refine ⟨vp_in_nI (by omega) (by omega), vp_in_nI hF (by omega), ?_⟩
        have g1 := M.1 (F i) hF w
        have e : T (F i) = v := by
          rcases M.2 with x | ⟨x, s, hs, es, ts⟩
          · omega
          · rcases O.2.2.2.2.2.1 s hs with y | ⟨j, hj, ej⟩
            · omega
            · have hij : i ≤ j := by
                by_cases q : i ≤ j
                · exact q
                · exact absurd (by rw [ej]; exact es) (h3 j (by omega))
              have g2 := O.2.2.2.2.2.2.2 i j hij hj
              rw [ej] at g2
              omega
        rw [a3 (F i) hF, e]
        exact p
      · by_cases q : j = i
        · rw [q]; exact w
        · exact h3 j (by omega)
theorem qa_xl {post : Int32 → Prop} {a v : Nat} (A : rc_A rc_kx n F T U fc fd ft us) (O : rc_Ok (tp_mv c pr so ta rs sg le gr bd) (tp_wt bd ur) lo 20 n F T U) (ha : a < 16) (M : qa_mn T a v) (p : post (rc_kx v)) : wpX_leastTime post (xs_S c pr so ta rs sg le gr bd ur fc fd ft us) (nI a) :=
  ⟨n + 1, qa_xl2 A O ha M p (n + 1) 0 (by omega) (by omega) (fun j hj => absurd hj (by omega))⟩
theorem qa_xh3 {post : Int32 → Prop} {a k low high : Nat} (A : rc_A rc_kx n F T U fc fd ft us) (O : rc_Ok (tp_mv c pr so ta rs sg le gr bd) (tp_wt bd ur) lo 20 n F T U) (ha : a < 16) (hk : k < 2) (hl : low < 8) (hh : high < 8) (h1 : qa_hb T a k low high → post 1) (h0 : ¬ qa_hb T a k low high → post 0) :
    ∀ m i, n - i < m → i ≤ n → (∀ j, j < i → ¬ (F j % 16 = a ∧ low ≤ tp_ck (F j) k ∧ tp_ck (F j) k ≤ high)) → wX_holdsBetween_3 post (nI a) (nI k) (nI low) (nI high) (nI c) fc (tp_I pr) (tp_I so) (tp_I ta) (tp_I rs) (tp_I sg) (tp_I le) (tp_I gr) (tp_I bd) (tp_I ur) fd ft us m (nI i) := by
  have hn := rc_Ok_n _ _ O
  obtain ⟨rfl, a2, a3, a4⟩ := A
  intro m
  induction m with
  | zero => intro i h; omega
  | succ m ih =>
    intro i g1 g2 g3
    refine pk_le n i (fun z => ?_) (fun z => ?_)
    · refine h0 (fun q => ?_)
      obtain ⟨j, hj, ej⟩ := (qa_fd O (P := fun s => s % 16 = a ∧ low ≤ tp_ck s k ∧ tp_ck s k ≤ high)).mp q
      exact g3 j (by omega) ej
    · have hF := (O.2.2.2.1 i z).1
      have hc := tp_ck_lt (F i) k
      have next : ¬ (F i % 16 = a ∧ low ≤ tp_ck (F i) k ∧ tp_ck (F i) k ≤ high) → wX_holdsBetween_3 post (nI a) (nI k) (nI low) (nI high) (nI c) (nI n) (tp_I pr) (tp_I so) (tp_I ta) (tp_I rs) (tp_I sg) (tp_I le) (tp_I gr) (tp_I bd) (tp_I ur) fd ft us m (nI (i + 1)) := by
        intro w
        refine ih (i + 1) (by omega) (by omega) (fun j hj => ?_)
        by_cases q : j = i
        · rw [q]; exact w
        · exact g3 j (by omega)
      rw [nI_clamp (show i < 2 ^ 31 by omega), a2 i z]
      refine ⟨vp_in_nI (by omega) (by omega), xm_clock hF hk ⟨vp_in_nI (by omega) (by omega), pk_eq (F i % 16) a (fun w => pk_lt (tp_ck (F i) k) low (fun x => nm_r (nI_1 i) (next (by omega))) (fun x => pk_lt high (tp_ck (F i) k) (fun y => nm_r (nI_1 i) (next (by omega))) (fun y => h1 ?_))) (fun w => nm_r (nI_1 i) (next (fun q => w q.1))) (qa_and hF)⟩⟩
      exact (qa_fd O (P := fun s => s % 16 = a ∧ low ≤ tp_ck s k ∧ tp_ck s k ≤ high)).mpr ⟨i, z, w, x, y⟩
theorem qa_xh {post : Int32 → Prop} {a k low high : Nat} (A : rc_A rc_kx n F T U fc fd ft us) (O : rc_Ok (tp_mv c pr so ta rs sg le gr bd) (tp_wt bd ur) lo 20 n F T U) (ha : a < 16) (hk : k < 2) (hl : low < 8) (hh : high < 8) (h1 : qa_hb T a k low high → post 1) (h0 : ¬ qa_hb T a k low high → post 0) : wpX_holdsBetween post (xs_S c pr so ta rs sg le gr bd ur fc fd ft us) (nI a) (nI k) (nI low) (nI high) :=
  ⟨n + 1, qa_xh3 A O ha hk hl hh h1 h0 (n + 1) 0 (by omega) (by omega) (fun j hj => absurd hj (by omega))⟩
theorem qa_xp {post : Int32 → SX → Prop} {f : Nat → Nat} (A : rc_A rc_kx n F T U fc fd ft us) (O : rc_Ok (tp_mv c pr so ta rs sg le gr bd) (tp_wt bd ur) lo 20 n F T U) (M : ∀ a, qa_mn T a (f a)) (p : post (nI (rc_cn f 16)) (xs_S c pr so ta rs sg le gr bd ur fc fd ft us)) :
    ∀ m i, 16 - i < m → i ≤ 16 → wX_pairs_8 post (nI c) fc (tp_I pr) (tp_I so) (tp_I ta) (tp_I rs) (tp_I sg) (tp_I le) (tp_I gr) (tp_I bd) (tp_I ur) fd ft us m (nI (rc_cn f i)) (nI i) := by
  intro m
  induction m with
  | zero => intro i h; omega
  | succ m ih =>
    intro i h1 h2
    refine pk_le 16 i (fun z => ?_) (fun z => ?_)
    · have e : i = 16 := by omega
      rw [e]; exact p
    · refine qa_xl A O (by omega) (M i) ?_
      have hi := ih (i + 1) (by omega) (by omega)
      have l21 := qa_le (M i)
      by_cases w : f i = 21
      · rw [show rc_cn f (i + 1) = rc_cn f i from by show rc_cn f i + (if f i = 21 then 0 else 1) = _; rw [if_pos w]; rfl] at hi
        exact br_t (by rw [w]; rfl) (nm_r (nI_1 i) hi)
      · rw [show rc_cn f (i + 1) = rc_cn f i + 1 from by show rc_cn f i + (if f i = 21 then 0 else 1) = _; rw [if_neg w]] at hi
        exact br_f (rc_kx_t _ (by omega)) (nm_r (nI_1 _) (nm_r (nI_1 i) hi))
theorem qa_xo {post : Int32 → SX → Prop} {p : Nat} (A : rc_A rc_kx n F T U fc fd ft us) (O : rc_Ok (tp_mv c pr so ta rs sg le gr bd) (tp_wt bd ur) lo 20 n F T U) (hp : p < 2) (h : ∀ m, qa_L T p m → post (nI m) (xs_S c pr so ta rs sg le gr bd ur fc fd ft us)) :
    ∀ m i w, n - i < m → i ≤ n → w < 16 → (∀ l, l < 4 → (w.testBit l = true ↔ ∃ j, j < i ∧ tp_pl (F j) p = l)) → wX_locations_18 post (nI p) (nI c) fc (tp_I pr) (tp_I so) (tp_I ta) (tp_I rs) (tp_I sg) (tp_I le) (tp_I gr) (tp_I bd) (tp_I ur) fd ft us m (nI w) (nI i) := by
  have hn := rc_Ok_n _ _ O
  obtain ⟨rfl, a2, a3, a4⟩ := A
  intro m
  induction m with
  | zero => intro i w h; omega
  | succ m ih =>
    intro i w h1 h2 hw hb
    refine pk_le n i (fun z => ?_) (fun z => ?_)
    · refine h w ⟨hw, fun l hl => ?_⟩
      rw [qa_fd O (P := fun s => tp_pl s p = l), hb l hl, show i = n from by omega]
    · have hF := (O.2.2.2.1 i z).1
      have hl := tp_pl_lt (F i) p
      rw [nI_clamp (show i < 2 ^ 31 by omega), a2 i z]
      refine ⟨vp_in_nI (by omega) (by omega), xm_location hF hp ?_⟩
      rw [qa_sh _ hl, bx_or]
      refine nm_e (nm_r (nI_1 i) (ih (i + 1) _ (by omega) (by omega) (qa_or (i := 0) hw hl).1 (fun l hl' => ?_)))
      rw [(qa_or hw hl).2, hb l hl']
      constructor
      · rintro (⟨j, hj, e⟩ | e)
        · exact ⟨j, by omega, e⟩
        · exact ⟨i, by omega, e⟩
      · rintro ⟨j, hj, e⟩
        by_cases q : j = i
        · rw [q] at e; exact Or.inr e
        · exact Or.inl ⟨j, by omega, e⟩
/-! the reference: T is the component's, T' its own -/
variable {T' U' : Nat → Nat}
theorem qa_yl8 {post : Int32 → Prop} {a v : Nat} (A : rc_A rc_ky n F T' U' fc fd ft us) (E : ∀ q, q < 1024 → T' q = T (tp_ph q)) (hT : ∀ s, s < 1024 → T s ≤ 21) (ha : a < 16) (M : qa_mn T a v) (p : post (nI v)) :
    ∀ m i w, 64 * a + 64 - i < m → 64 * a ≤ i → i ≤ 64 * a + 64 → (w = 21 ∨ (w ≤ 20 ∧ ∃ q, 64 * a ≤ q ∧ q < i ∧ T' q = w)) → (∀ q, 64 * a ≤ q → q < i → w ≤ T' q) → wY_leastTime_8 post (nI a) (nI c) fc (tp_I pr) (tp_I so) (tp_I ta) (tp_I rs) (tp_I sg) (tp_I le) (tp_I gr) (tp_I bd) (tp_I ur) ft fd us m (nI w) (nI i) := by
  intro m
  induction m with
  | zero => intro i w h; omega
  | succ m ih =>
    intro i w h1 h2 h3 g1 g2
    have w21 : w ≤ 21 := by rcases g1 with z | z <;> omega
    refine pk_le (64 * a + 64) i (fun z => ?_) (fun z => ?_) (by rw [show (64 : Int32) = nI 64 from rfl, pk_mul, nI_add])
    · have e : w = v := by
        refine qa_uni (T := T) (a := a) ⟨fun s hs es => ?_, ?_⟩ M
        · obtain ⟨q1, q2⟩ := tp_ph_ps hs
          have q3 := qa_p2 s hs
          have := g2 (tp_ps s) (by omega) (by omega)
          rw [E _ q1, q2] at this
          exact this
        · rcases g1 with y | ⟨y, q, q1, q2, q3⟩
          · exact Or.inl y
          · refine Or.inr ⟨y, tp_ph q, (tp_ps_ph (by omega)).1, ?_, ?_⟩
            · have := qa_p1 q (by omega)
              omega
            · rw [← E q (by omega)]; exact q3
      rw [e]; exact p
    · have hi : i < 1024 := by omega
      have t21 : T' i ≤ 21 := by rw [E i hi]; exact hT _ (tp_ps_ph hi).1
      rw [nI_clamp (show i < 2 ^ 31 by omega), A.2.2.1 i hi]
      refine ⟨vp_in_nI hi (by omega), pk_le w (T' i) (fun x => nm_r (nI_1 i) (ih (i + 1) w (by omega) (by omega) (by omega) ?_ ?_)) (fun x => ⟨vp_in_nI hi (by omega), nm_e (nm_r (nI_1 i) (ih (i + 1) (T' i) (by omega) (by omega) (by omega) ?_ ?_))⟩)⟩
      · rcases g1 with y | ⟨y, q, q1, q2, q3⟩
        · exact Or.inl y
        · exact Or.inr ⟨y, q, q1, by omega, q3⟩
      · intro q q1 q2
        by_cases y : q = i
        · rw [y]; exact x
        · exact g2 q q1 (by omega)
      · exact Or.inr ⟨by omega, i, h2, by omega, rfl⟩
      · intro q q1 q2
        by_cases y : q = i
        · rw [y]; exact Nat.le_refl _
        · have := g2 q q1 (by omega)
          omega
theorem qa_yl {post : Int32 → Prop} {a v : Nat} (A : rc_A rc_ky n F T' U' fc fd ft us) (E : ∀ q, q < 1024 → T' q = T (tp_ph q)) (hT : ∀ s, s < 1024 → T s ≤ 21) (ha : a < 16) (M : qa_mn T a v) (p : post (nI v)) : wpY_leastTime post (ys_S c pr so ta rs sg le gr bd ur fc fd ft us) (nI a) := by
  refine nm_r (show (64 : Int32) * nI a = nI (64 * a) from by rw [show (64 : Int32) = nI 64 from rfl, pk_mul]) ⟨64 + 1, ?_⟩
  exact qa_yl8 A E hT ha M p (64 + 1) (64 * a) 21 (by omega) (by omega) (by omega) (Or.inl rfl) (fun q h1 h2 => absurd h1 (by omega))
theorem qa_hbY {a k low high : Nat} (E : ∀ q, q < 1024 → T' q = T (tp_ph q)) (ha : a < 16) : qa_hb T a k low high ↔ ∃ q, 64 * a ≤ q ∧ q < 64 * a + 64 ∧ T' q ≠ 21 ∧ low ≤ tp_ck (tp_ph q) k ∧ tp_ck (tp_ph q) k ≤ high := by
  constructor
  · rintro ⟨s, hs, t, es, l, h⟩
    obtain ⟨q1, q2⟩ := tp_ph_ps hs
    have q3 := qa_p2 s hs
    refine ⟨tp_ps s, by omega, by omega, ?_, ?_, ?_⟩
    · rw [E _ q1, q2]; exact t
    · rw [q2]; exact l
    · rw [q2]; exact h
  · rintro ⟨q, q1, q2, t, l, h⟩
    have q3 := qa_p1 q (by omega)
    rw [E q (by omega)] at t
    exact ⟨tp_ph q, (tp_ps_ph (by omega)).1, t, by omega, l, h⟩
theorem qa_ym39 {post : Int32 → SY → Prop} {a k v : Nat} (A : rc_A rc_ky n F T' U' fc fd ft us) (E : ∀ q, q < 1024 → T' q = T (tp_ph q)) (hT : ∀ s, s < 1024 → T s ≤ 21) (ha : a < 16) (hk : k < 2) (hv : v < 7) (h1 : qa_hb T a k 0 v → post 1 (ys_S c pr so ta rs sg le gr bd ur fc fd ft us)) (h0 : ¬ qa_hb T a k 0 v → post 0 (ys_S c pr so ta rs sg le gr bd ur fc fd ft us)) :
    ∀ m i, 64 * a + 64 - i < m → 64 * a ≤ i → i ≤ 64 * a + 64 → (∀ q, 64 * a ≤ q → q < i → ¬ (T' q ≠ 21 ∧ tp_ck (tp_ph q) k ≤ v)) → wY_atMost_39 post (nI a) (nI k) (nI v) (nI c) fc (tp_I pr) (tp_I so) (tp_I ta) (tp_I rs) (tp_I sg) (tp_I le) (tp_I gr) (tp_I bd) (tp_I ur) ft fd us m (nI i) := by
  intro m
  induction m with
  | zero => intro i h; omega
  | succ m ih =>
    intro i g1 g2 g3 g4
    refine pk_le (64 * a + 64) i (fun z => h0 (fun q => ?_)) (fun z => ?_) (by rw [show (64 : Int32) = nI 64 from rfl, pk_mul, nI_add])
    · obtain ⟨q, q1, q2, q3, q4, q5⟩ := (qa_hbY E ha).mp q
      exact g4 q q1 (by omega) ⟨q3, q5⟩
    · have hi : i < 1024 := by omega
      have t21 : T' i ≤ 21 := by rw [E i hi]; exact hT _ (tp_ps_ph hi).1
      have hc := tp_ck_lt (tp_ph i) k
      have next : ¬ (T' i ≠ 21 ∧ tp_ck (tp_ph i) k ≤ v) → wY_atMost_39 post (nI a) (nI k) (nI v) (nI c) fc (tp_I pr) (tp_I so) (tp_I ta) (tp_I rs) (tp_I sg) (tp_I le) (tp_I gr) (tp_I bd) (tp_I ur) ft fd us m (nI (i + 1)) := by
        intro w
        refine ih (i + 1) (by omega) (by omega) (by omega) (fun q q1 q2 => ?_)
        by_cases y : q = i
        · rw [y]; exact w
        · exact g4 q q1 (by omega)
      rw [nI_clamp (show i < 2 ^ 31 by omega), A.2.2.1 i hi]
      refine ⟨vp_in_nI hi (by omega), pk_le 21 (T' i) (fun x => nm_r (nI_1 i) (next (by omega))) (fun x => ym_value hi hk (pk_lt v (tp_ck (tp_ph i) k) (fun y => nm_r (nI_1 i) (next (by omega))) (fun y => h1 ?_)))⟩
      exact (qa_hbY E ha).mpr ⟨i, g2, z, by omega, by omega, y⟩
theorem qa_yk39 {post : Int32 → SY → Prop} {a k v : Nat} (A : rc_A rc_ky n F T' U' fc fd ft us) (E : ∀ q, q < 1024 → T' q = T (tp_ph q)) (hT : ∀ s, s < 1024 → T s ≤ 21) (ha : a < 16) (hk : k < 2) (hv : v < 7) (h1 : qa_hb T a k v 7 → post 1 (ys_S c pr so ta rs sg le gr bd ur fc fd ft us)) (h0 : ¬ qa_hb T a k v 7 → post 0 (ys_S c pr so ta rs sg le gr bd ur fc fd ft us)) :
    ∀ m i, 64 * a + 64 - i < m → 64 * a ≤ i → i ≤ 64 * a + 64 → (∀ q, 64 * a ≤ q → q < i → ¬ (T' q ≠ 21 ∧ v ≤ tp_ck (tp_ph q) k)) → wY_atLeast_39 post (nI a) (nI k) (nI v) (nI c) fc (tp_I pr) (tp_I so) (tp_I ta) (tp_I rs) (tp_I sg) (tp_I le) (tp_I gr) (tp_I bd) (tp_I ur) ft fd us m (nI i) := by
  intro m
  induction m with
  | zero => intro i h; omega
  | succ m ih =>
    intro i g1 g2 g3 g4
    refine pk_le (64 * a + 64) i (fun z => h0 (fun q => ?_)) (fun z => ?_) (by rw [show (64 : Int32) = nI 64 from rfl, pk_mul, nI_add])
    · obtain ⟨q, q1, q2, q3, q4, q5⟩ := (qa_hbY E ha).mp q
      exact g4 q q1 (by omega) ⟨q3, q4⟩
    · have hi : i < 1024 := by omega
      have t21 : T' i ≤ 21 := by rw [E i hi]; exact hT _ (tp_ps_ph hi).1
      have hc := tp_ck_lt (tp_ph i) k
      have next : ¬ (T' i ≠ 21 ∧ v ≤ tp_ck (tp_ph i) k) → wY_atLeast_39 post (nI a) (nI k) (nI v) (nI c) fc (tp_I pr) (tp_I so) (tp_I ta) (tp_I rs) (tp_I sg) (tp_I le) (tp_I gr) (tp_I bd) (tp_I ur) ft fd us m (nI (i + 1)) := by
        intro w
        refine ih (i + 1) (by omega) (by omega) (by omega) (fun q q1 q2 => ?_)
        by_cases y : q = i
        · rw [y]; exact w
        · exact g4 q q1 (by omega)
      rw [nI_clamp (show i < 2 ^ 31 by omega), A.2.2.1 i hi]
      refine ⟨vp_in_nI hi (by omega), pk_le 21 (T' i) (fun x => nm_r (nI_1 i) (next (by omega))) (fun x => ym_value hi hk (pk_lt (tp_ck (tp_ph i) k) v (fun y => nm_r (nI_1 i) (next (by omega))) (fun y => h1 ?_)))⟩
      exact (qa_hbY E ha).mpr ⟨i, g2, z, by omega, y, by omega⟩
theorem qa_yp {post : Int32 → SY → Prop} {f : Nat → Nat} (A : rc_A rc_ky n F T' U' fc fd ft us) (E : ∀ q, q < 1024 → T' q = T (tp_ph q)) (hT : ∀ s, s < 1024 → T s ≤ 21) (M : ∀ a, qa_mn T a (f a)) (p : post (nI (rc_cn f 16)) (ys_S c pr so ta rs sg le gr bd ur fc fd ft us)) :
    ∀ m i, 16 - i < m → i ≤ 16 → wY_pairs_8 post (nI c) fc (tp_I pr) (tp_I so) (tp_I ta) (tp_I rs) (tp_I sg) (tp_I le) (tp_I gr) (tp_I bd) (tp_I ur) ft fd us m (nI (rc_cn f i)) (nI i) := by
  intro m
  induction m with
  | zero => intro i h; omega
  | succ m ih =>
    intro i h1 h2
    refine pk_le 16 i (fun z => ?_) (fun z => ?_)
    · have e : i = 16 := by omega
      rw [e]; exact p
    · refine qa_yl A E hT (by omega) (M i) ?_
      have hi := ih (i + 1) (by omega) (by omega)
      have l21 := qa_le (M i)
      refine pk_le 21 (f i) (fun w => ?_) (fun w => ?_)
      · rw [show rc_cn f (i + 1) = rc_cn f i from by show rc_cn f i + (if f i = 21 then 0 else 1) = _; rw [if_pos (by omega)]; rfl] at hi
        exact nm_r (nI_1 i) hi
      · rw [show rc_cn f (i + 1) = rc_cn f i + 1 from by show rc_cn f i + (if f i = 21 then 0 else 1) = _; rw [if_neg (by omega)]] at hi
        exact nm_r (nI_1 _) (nm_r (nI_1 i) hi)
theorem qa_yo {post : Int32 → SY → Prop} {p : Nat} {f : Nat → Nat} (A : rc_A rc_ky n F T' U' fc fd ft us) (E : ∀ q, q < 1024 → T' q = T (tp_ph q)) (hT : ∀ s, s < 1024 → T s ≤ 21) (M : ∀ a, qa_mn T a (f a)) (hp : p < 2) (h : ∀ m, qa_L T p m → post (nI m) (ys_S c pr so ta rs sg le gr bd ur fc fd ft us)) :
    ∀ m i w, 16 - i < m → i ≤ 16 → w < 16 → (∀ l, l < 4 → (w.testBit l = true ↔ ∃ a, a < i ∧ f a ≠ 21 ∧ tp_pl a p = l)) → wY_locations_19 post (nI p) (nI c) fc (tp_I pr) (tp_I so) (tp_I ta) (tp_I rs) (tp_I sg) (tp_I le) (tp_I gr) (tp_I bd) (tp_I ur) ft fd us m (nI w) (nI i) := by
  intro m
  induction m with
  | zero => intro i w h; omega
  | succ m ih =>
    intro i w h1 h2 hw hb
    refine pk_le 16 i (fun z => ?_) (fun z => ?_)
    · refine h w ⟨hw, fun l hl => ?_⟩
      rw [hb l hl]
      constructor
      · rintro ⟨a, ha, fa, e⟩
        rcases (M a).2 with x | ⟨x, s, hs, es, ts⟩
        · exact absurd x fa
        · refine ⟨s, hs, by omega, ?_⟩
          rw [← e]
          unfold tp_pl
          rw [← es]
          by_cases q : p = 0
          · rw [if_pos q, if_pos q]; omega
          · rw [if_neg q, if_neg q]; omega
      · rintro ⟨s, hs, ts, e⟩
        have t21 := hT s hs
        have g1 := (M (s % 16)).1 s hs rfl
        refine ⟨s % 16, by omega, by omega, ?_⟩
        rw [← e]
        unfold tp_pl
        by_cases q : p = 0
        · rw [if_pos q, if_pos q]; omega
        · rw [if_neg q, if_neg q]; omega
    · refine qa_yl A E hT (by omega) (M i) ?_
      have l21 := qa_le (M i)
      have hl := tp_pl_lt i p
      refine pk_le 21 (f i) (fun x => ?_) (fun x => ?_)
      · refine nm_r (nI_1 i) (ih (i + 1) w (by omega) (by omega) hw (fun l hl' => ?_))
        rw [hb l hl']
        constructor
        · rintro ⟨a, ha, r⟩
          exact ⟨a, by omega, r⟩
        · rintro ⟨a, ha, fa, r⟩
          by_cases q : a = i
          · rw [q] at fa; omega
          · exact ⟨a, by omega, fa, r⟩
      · have go : wY_locations_19 post (nI p) (nI c) fc (tp_I pr) (tp_I so) (tp_I ta) (tp_I rs) (tp_I sg) (tp_I le) (tp_I gr) (tp_I bd) (tp_I ur) ft fd us m (nI (w ||| 2 ^ tp_pl i p)) (nI (i + 1)) := by
          refine ih (i + 1) _ (by omega) (by omega) (qa_or (i := 0) hw hl).1 (fun l hl' => ?_)
          rw [(qa_or hw hl).2, hb l hl']
          constructor
          · rintro (⟨a, ha, r⟩ | e)
            · exact ⟨a, by omega, r⟩
            · exact ⟨i, by omega, by omega, e⟩
          · rintro ⟨a, ha, fa, r⟩
            by_cases q : a = i
            · rw [q] at r; exact Or.inr r
            · exact Or.inl ⟨a, by omega, fa, r⟩
        refine pk_eq p 0 (fun q => ?_) (fun q => ?_)
        · have e : nI i - nI i / 4 * 4 = nI (tp_pl i p) := by
            rw [show (4 : Int32) = nI 4 from rfl, pk_rem (by omega) (by omega) (by omega)]
            unfold tp_pl
            rw [if_pos q]
          rw [e, qa_sh _ hl, bx_or]
          exact ⟨by decide, nm_e (nm_r (nI_1 i) go)⟩
        · have e : nI i / 4 = nI (tp_pl i p) := by
            rw [show (4 : Int32) = nI 4 from rfl, pk_div (by omega) (by omega) (by omega)]
            unfold tp_pl
            rw [if_neg q]
            exact congrArg nI (by omega)
          rw [e, qa_sh _ hl, bx_or]
          exact ⟨by decide, nm_e (nm_r (nI_1 i) go)⟩
end
