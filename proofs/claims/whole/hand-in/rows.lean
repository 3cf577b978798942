section
/-! The search, without any bytecode: T s = 21 says that state s is not found, U e = 21 that edge e is not used.
    mv e f s s': a move by the edges e and f (e = f: a silent one) from s to s'; wt s s': waiting by one. -/
def rc_up (f : Nat → Nat) (k v : Nat) : Nat → Nat := fun j => if j = k then v else f j
theorem rc_us {f : Nat → Nat} {k v : Nat} : rc_up f k v k = v := if_pos rfl
theorem rc_un {f : Nat → Nat} {k v j : Nat} (h : j ≠ k) : rc_up f k v j = f j := if_neg h
/-- how many states below k are found -/
def rc_cn (T : Nat → Nat) : Nat → Nat
  | 0 => 0
  | k + 1 => rc_cn T k + (if T k = 21 then 0 else 1)
theorem rc_cn_le (T : Nat → Nat) : ∀ k, rc_cn T k ≤ k := by
  intro k
  induction k with
  | zero => exact Nat.le_refl 0
  | succ k ih =>
    show rc_cn T k + (if T k = 21 then 0 else 1) ≤ k + 1
    split <;> omega
theorem rc_cn_lt {T : Nat → Nat} {s : Nat} (h : T s = 21) : ∀ k, s < k → rc_cn T k < k := by
  intro k
  induction k with
  | zero => intro hs; omega
  | succ k ih =>
    intro hs
    show rc_cn T k + (if T k = 21 then 0 else 1) < k + 1
    by_cases e : s = k
    · subst e
      rw [if_pos h]
      have := rc_cn_le T s
      omega
    · have := ih (by omega)
      split <;> omega
theorem rc_cn_eq {T T' : Nat → Nat} : ∀ k, (∀ s, s < k → T' s = T s) → rc_cn T' k = rc_cn T k := by
  intro k
  induction k with
  | zero => intro _; rfl
  | succ k ih =>
    intro h
    show rc_cn T' k + (if T' k = 21 then 0 else 1) = rc_cn T k + (if T k = 21 then 0 else 1)
    rw [ih (fun s hs => h s (by omega)), h k (by omega)]
theorem rc_cn_up {T : Nat → Nat} {s t : Nat} (h : T s = 21) (ht : t ≠ 21) : ∀ k, s < k → rc_cn (rc_up T s t) k = rc_cn T k + 1 := by
  intro k
  induction k with
  | zero => intro hs; omega
  | succ k ih =>
    intro hs
    show rc_cn (rc_up T s t) k + (if rc_up T s t k = 21 then 0 else 1) = rc_cn T k + (if T k = 21 then 0 else 1) + 1
    by_cases e : s = k
    · subst e
      rw [rc_us, if_neg ht, if_pos h, rc_cn_eq s (fun j hj => rc_un (by omega))]
    · rw [ih (by omega), rc_un (fun z => e z.symm)]
      omega
theorem rc_cn_0 {T : Nat → Nat} : ∀ k, (∀ s, s < k → T s = 21) → rc_cn T k = 0 := by
  intro k
  induction k with
  | zero => intro _; rfl
  | succ k ih =>
    intro h
    show rc_cn T k + (if T k = 21 then 0 else 1) = 0
    rw [ih (fun s hs => h s (by omega)), if_pos (h k (by omega))]
section
variable (mv : Nat → Nat → Nat → Nat → Prop) (wt : Nat → Nat → Prop)
/-- state s is reached at time t -/
def rc_R (s t : Nat) : Prop := ∀ P : Nat → Nat → Prop, P 0 0 → (∀ e f s s' t, P s t → mv e f s s' → P s' t) → (∀ s s' t, P s t → t < 20 → wt s s' → P s' (t + 1)) → P s t
theorem rc_R0 : rc_R mv wt 0 0 := fun _ h _ _ => h
theorem rc_Rm {e f s s' t : Nat} (h : rc_R mv wt s t) (m : mv e f s s') : rc_R mv wt s' t := fun P a b c => b e f s s' t (h P a b c) m
theorem rc_Rw {s s' t : Nat} (h : rc_R mv wt s t) (ht : t < 20) (w : wt s s') : rc_R mv wt s' (t + 1) := fun P a b c => c s s' t (h P a b c) ht w
/-- edge e is used at time t -/
def rc_V (e t : Nat) : Prop := ∃ f s s', rc_R mv wt s t ∧ (mv e f s s' ∨ mv f e s s')
/-- the search so far: n states found, in the order of F; none later than h, those from lo on at h -/
def rc_Ok (lo h n : Nat) (F T U : Nat → Nat) : Prop :=
  n = rc_cn T 1024 ∧ h ≤ 20 ∧ lo ≤ n ∧ (∀ i, i < n → F i < 1024 ∧ T (F i) ≤ h ∧ rc_R mv wt (F i) (T (F i))) ∧ (∀ i, lo ≤ i → i < n → T (F i) = h) ∧ (∀ s, s < 1024 → T s = 21 ∨ ∃ i, i < n ∧ F i = s) ∧ (∀ e, U e = 21 ∨ (U e ≤ h ∧ rc_V mv wt e (U e))) ∧ (∀ i j, i ≤ j → j < n → T (F i) ≤ T (F j))
/-- the second is the first, further on -/
def rc_Le (n : Nat) (F T U : Nat → Nat) (n' : Nat) (F' T' U' : Nat → Nat) : Prop :=
  n ≤ n' ∧ (∀ i, i < n → F' i = F i) ∧ (∀ s, T s ≠ 21 → T' s = T s) ∧ (∀ e, U e ≠ 21 → U' e = U e)
theorem rc_Le_rf {n : Nat} {F T U : Nat → Nat} : rc_Le n F T U n F T U := ⟨Nat.le_refl n, fun _ _ => rfl, fun _ _ => rfl, fun _ _ => rfl⟩
theorem rc_Le_tr {n n' n'' : Nat} {F T U F' T' U' F'' T'' U'' : Nat → Nat} (a : rc_Le n F T U n' F' T' U') (b : rc_Le n' F' T' U' n'' F'' T'' U'') : rc_Le n F T U n'' F'' T'' U'' := by
  obtain ⟨a1, a2, a3, a4⟩ := a
  obtain ⟨b1, b2, b3, b4⟩ := b
  refine ⟨Nat.le_trans a1 b1, fun i hi => (b2 i (by omega)).trans (a2 i hi), fun s hs => ?_, fun e he => ?_⟩
  · rw [b3 s (by rw [a3 s hs]; exact hs), a3 s hs]
  · rw [b4 e (by rw [a4 e he]; exact he), a4 e he]
theorem rc_le_T {T T' : Nat → Nat} {s h : Nat} (hh : h ≤ 20) (a : ∀ s, T s ≠ 21 → T' s = T s) (b : T s ≤ h) : T' s ≤ h := by
  rw [a s (by omega)]; exact b
theorem rc_Ok_T {lo h n : Nat} {F T U : Nat → Nat} (O : rc_Ok mv wt lo h n F T U) {s : Nat} (hs : s < 1024) (hT : T s ≠ 21) : T s ≤ h := by
  obtain ⟨_, _, _, o4, _, o6, _, _⟩ := O
  rcases o6 s hs with z | ⟨i, hi, e⟩
  · exact absurd z hT
  · rw [← e]; exact (o4 i hi).2.1
theorem rc_Ok_R {lo h n : Nat} {F T U : Nat → Nat} (O : rc_Ok mv wt lo h n F T U) {s : Nat} (hs : s < 1024) (hT : T s ≠ 21) : rc_R mv wt s (T s) := by
  obtain ⟨_, _, _, o4, _, o6, _, _⟩ := O
  rcases o6 s hs with z | ⟨i, hi, e⟩
  · exact absurd z hT
  · rw [← e]; exact (o4 i hi).2.2
theorem rc_Ok_n {lo h n : Nat} {F T U : Nat → Nat} (O : rc_Ok mv wt lo h n F T U) : n ≤ 1024 := by
  rw [O.1]; exact rc_cn_le T 1024
theorem rc_Ok_U {lo h n : Nat} {F T U : Nat → Nat} (O : rc_Ok mv wt lo h n F T U) {e : Nat} (he : U e ≠ 21) : U e ≤ h := by
  obtain ⟨_, _, _, _, _, _, o7, _⟩ := O
  rcases o7 e with z | z
  · exact absurd z he
  · exact z.1
theorem rc_note {lo h n : Nat} {F T U : Nat → Nat} {s : Nat} (O : rc_Ok mv wt lo h n F T U) (hs : s < 1024) (hT : T s = 21) (hR : rc_R mv wt s h) :
    n < 1024 ∧ rc_Ok mv wt lo h (n + 1) (rc_up F n s) (rc_up T s h) U ∧ rc_Le n F T U (n + 1) (rc_up F n s) (rc_up T s h) U := by
  obtain ⟨o1, o2, o3, o4, o5, o6, o7, o8⟩ := O
  have hn : n < 1024 := by rw [o1]; exact rc_cn_lt hT 1024 hs
  have hF : ∀ i, i < n → F i ≠ s := by
    intro i hi e
    have := (o4 i hi).2.1
    rw [e, hT] at this
    omega
  refine ⟨hn, ⟨?_, o2, by omega, ?_, ?_, ?_, o7, ?_⟩, ⟨by omega, ?_, ?_, fun _ _ => rfl⟩⟩
  · rw [rc_cn_up hT (by omega) 1024 hs, o1]
  · intro i hi
    by_cases e : i = n
    · subst e
      rw [rc_us, rc_us]
      exact ⟨hs, Nat.le_refl h, hR⟩
    · rw [rc_un e, rc_un (hF i (by omega))]
      exact o4 i (by omega)
  · intro i h1 h2
    by_cases e : i = n
    · subst e
      rw [rc_us, rc_us]
    · rw [rc_un e, rc_un (hF i (by omega))]
      exact o5 i h1 (by omega)
  · intro q hq
    by_cases e : q = s
    · exact Or.inr ⟨n, by omega, by rw [rc_us, e]⟩
    · rw [rc_un e]
      rcases o6 q hq with z | ⟨i, hi, z⟩
      · exact Or.inl z
      · exact Or.inr ⟨i, by omega, by rw [rc_un (by omega)]; exact z⟩
  · intro i j hij hj
    by_cases ej : j = n
    · subst ej
      rw [rc_us, rc_us]
      by_cases ei : i = j
      · subst ei
        rw [rc_us, rc_us]
        exact Nat.le_refl h
      · rw [rc_un ei, rc_un (hF i (by omega))]
        exact (o4 i (by omega)).2.1
    · rw [rc_un ej, rc_un (hF j (by omega)), rc_un (show i ≠ n by omega), rc_un (hF i (by omega))]
      exact o8 i j hij (by omega)
  · intro i hi
    exact rc_un (by omega)
  · intro q hq
    exact rc_un (fun e => hq (by rw [e]; exact hT))
theorem rc_use {lo h n : Nat} {F T U : Nat → Nat} {e : Nat} (O : rc_Ok mv wt lo h n F T U) (hU : U e = 21) (hV : rc_V mv wt e h) :
    rc_Ok mv wt lo h n F T (rc_up U e h) ∧ rc_Le n F T U n F T (rc_up U e h) := by
  obtain ⟨o1, o2, o3, o4, o5, o6, o7, o8⟩ := O
  refine ⟨⟨o1, o2, o3, o4, o5, o6, ?_, o8⟩, ⟨Nat.le_refl n, fun _ _ => rfl, fun _ _ => rfl, ?_⟩⟩
  · intro g
    by_cases z : g = e
    · subst z
      rw [rc_us]
      exact Or.inr ⟨Nat.le_refl h, hV⟩
    · rw [rc_un z]
      exact o7 g
  · intro g hg
    exact rc_un (fun z => hg (by rw [z]; exact hU))
/-- the next time: those found from here on are found at h + 1 -/
theorem rc_next {lo h n : Nat} {F T U : Nat → Nat} (O : rc_Ok mv wt lo h n F T U) (hh : h < 20) : rc_Ok mv wt n (h + 1) n F T U := by
  obtain ⟨o1, o2, o3, o4, o5, o6, o7, o8⟩ := O
  refine ⟨o1, by omega, Nat.le_refl n, fun i hi => ⟨(o4 i hi).1, Nat.le_succ_of_le (o4 i hi).2.1, (o4 i hi).2.2⟩, fun i h1 h2 => by omega, o6, fun e => ?_, o8⟩
  rcases o7 e with z | z
  · exact Or.inl z
  · exact Or.inr ⟨Nat.le_succ_of_le z.1, z.2⟩
/-- the beginning -/
theorem rc_begin {F T U : Nat → Nat} (hT : ∀ s, s < 1024 → T s = 21) (hU : ∀ e, U e = 21) : rc_Ok mv wt 0 0 0 F T U :=
  ⟨(rc_cn_0 1024 hT).symm, by omega, by omega, fun i hi => by omega, fun i _ hi => by omega, fun s hs => Or.inl (hT s hs), fun e => Or.inl (hU e), fun i j _ hj => by omega⟩
/-- what the moves from the i-th state lead to is found; what waiting leads to is found -/
def rc_Dm (F T U : Nat → Nat) (i : Nat) : Prop := ∀ e f s', mv e f (F i) s' → T s' ≤ T (F i) ∧ U e ≤ T (F i) ∧ U f ≤ T (F i)
def rc_Dw (F T : Nat → Nat) (i : Nat) : Prop := ∀ s', T (F i) < 20 → wt (F i) s' → T s' ≤ T (F i) + 1
theorem rc_Dm_le {lo h n n' : Nat} {F T U F' T' U' : Nat → Nat} (O : rc_Ok mv wt lo h n F T U) (L : rc_Le n F T U n' F' T' U') {i : Nat} (hi : i < n) (D : rc_Dm mv F T U i) : rc_Dm mv F' T' U' i := by
  intro e f s' m
  have hF := L.2.1 i hi
  have hT : T (F i) ≤ h := (O.2.2.2.1 i hi).2.1
  have hh : h ≤ 20 := O.2.1
  rw [hF] at m ⊢
  obtain ⟨d1, d2, d3⟩ := D e f s' m
  rw [L.2.2.1 (F i) (by omega), L.2.2.1 s' (by omega), L.2.2.2 e (by omega), L.2.2.2 f (by omega)]
  exact ⟨d1, d2, d3⟩
theorem rc_Dw_le {lo h n n' : Nat} {F T U F' T' U' : Nat → Nat} (O : rc_Ok mv wt lo h n F T U) (L : rc_Le n F T U n' F' T' U') {i : Nat} (hi : i < n) (D : rc_Dw wt F T i) : rc_Dw wt F' T' i := by
  intro s' h1 w
  have hF := L.2.1 i hi
  have hT : T (F i) ≤ h := (O.2.2.2.1 i hi).2.1
  have hh : h ≤ 20 := O.2.1
  rw [hF] at h1 w ⊢
  rw [L.2.2.1 (F i) (by omega)] at h1 ⊢
  have d := D s' h1 w
  rw [L.2.2.1 s' (by omega)]
  exact d
/-- what the search has found when it is through: of each state and of each edge the least time -/
def rc_Fin (T U : Nat → Nat) : Prop :=
  (∀ s, s < 1024 → (T s = 21 ∨ (T s ≤ 20 ∧ rc_R mv wt s (T s))) ∧ (∀ t, rc_R mv wt s t → T s ≤ t)) ∧ (∀ e, (U e = 21 ∨ (U e ≤ 20 ∧ rc_V mv wt e (U e))) ∧ (∀ t, rc_V mv wt e t → U e ≤ t))
theorem rc_fin {lo h n : Nat} {F T U : Nat → Nat} (hm : ∀ e f s s', s < 1024 → mv e f s s' → s' < 1024) (hw : ∀ s s', s < 1024 → wt s s' → s' < 1024)
    (O : rc_Ok mv wt lo h n F T U) (h0 : T 0 = 0) (D : ∀ i, i < n → rc_Dm mv F T U i ∧ rc_Dw wt F T i) : rc_Fin mv wt T U := by
  have hh : h ≤ 20 := O.2.1
  have all : ∀ s t, rc_R mv wt s t → s < 1024 ∧ T s ≤ t ∧ t ≤ 20 := by
    intro s t r
    refine r (fun s t => s < 1024 ∧ T s ≤ t ∧ t ≤ 20) ⟨by omega, by omega, by omega⟩ ?_ ?_
    · intro e f s s' t ⟨a, b, c⟩ m
      refine ⟨hm e f s s' a m, ?_, c⟩
      rcases O.2.2.2.2.2.1 s a with z | ⟨i, hi, z⟩
      · omega
      · subst z
        have := ((D i hi).1 e f s' m).1
        omega
    · intro s s' t ⟨a, b, c⟩ ht w
      refine ⟨hw s s' a w, ?_, by omega⟩
      rcases O.2.2.2.2.2.1 s a with z | ⟨i, hi, z⟩
      · omega
      · subst z
        have := (D i hi).2 s' (by omega) w
        omega
  refine ⟨fun s hs => ⟨?_, fun t r => (all s t r).2.1⟩, fun e => ⟨?_, ?_⟩⟩
  · by_cases z : T s = 21
    · exact Or.inl z
    · exact Or.inr ⟨Nat.le_trans (rc_Ok_T mv wt O hs z) hh, rc_Ok_R mv wt O hs z⟩
  · rcases O.2.2.2.2.2.2.1 e with z | z
    · exact Or.inl z
    · exact Or.inr ⟨Nat.le_trans z.1 hh, z.2⟩
  · intro t ⟨f, s, s', r, m⟩
    obtain ⟨a, b, c⟩ := all s t r
    rcases O.2.2.2.2.2.1 s a with z | ⟨i, hi, z⟩
    · omega
    · subst z
      rcases m with m | m
      · have := ((D i hi).1 e f s' m).2.1
        omega
      · have := ((D i hi).1 f e s' m).2.2
        omega
end
/-- the least time is one number -/
theorem rc_uni {a b : Nat} {Q : Nat → Prop} (a1 : a = 21 ∨ (a ≤ 20 ∧ Q a)) (a2 : ∀ t, Q t → a ≤ t) (b1 : b = 21 ∨ (b ≤ 20 ∧ Q b)) (b2 : ∀ t, Q t → b ≤ t) : a = b := by
  rcases a1 with z | ⟨z, qa⟩
  · rcases b1 with w | ⟨w, qb⟩
    · rw [z, w]
    · have := a2 b qb
      omega
  · have h1 := b2 a qa
    rcases b1 with w | ⟨w, qb⟩
    · omega
    · have h2 := a2 b qb
      omega
section
variable (mv : Nat → Nat → Nat → Nat → Prop) (wt : Nat → Nat → Prop) (ph ps : Nat → Nat)
/-- the same moves in another code of the states: ph reads it -/
def rc_mY (e f s s' : Nat) : Prop := s' < 1024 ∧ mv e f (ph s) (ph s')
def rc_wY (s s' : Nat) : Prop := s' < 1024 ∧ wt (ph s) (ph s')
theorem rc_toX (h0 : ph 0 = 0) {s t : Nat} (r : rc_R (rc_mY mv ph) (rc_wY wt ph) s t) : rc_R mv wt (ph s) t := by
  refine r (fun s t => rc_R mv wt (ph s) t) ?_ ?_ ?_
  · show rc_R mv wt (ph 0) 0
    rw [h0]; exact rc_R0 mv wt
  · intro e f s s' t a m; exact rc_Rm mv wt a m.2
  · intro s s' t a ht w; exact rc_Rw mv wt a ht w.2
theorem rc_toY (h0 : ps 0 = 0) (hp : ∀ s, s < 1024 → ps s < 1024 ∧ ph (ps s) = s) (hm : ∀ e f s s', s < 1024 → mv e f s s' → s' < 1024) (hw : ∀ s s', s < 1024 → wt s s' → s' < 1024)
    {s t : Nat} (r : rc_R mv wt s t) : s < 1024 ∧ rc_R (rc_mY mv ph) (rc_wY wt ph) (ps s) t := by
  refine r (fun s t => s < 1024 ∧ rc_R (rc_mY mv ph) (rc_wY wt ph) (ps s) t) ⟨by omega, ?_⟩ ?_ ?_
  · rw [h0]; exact rc_R0 _ _
  · intro e f s s' t ⟨a, b⟩ m
    have l := hm e f s s' a m
    refine ⟨l, rc_Rm _ _ b (e := e) (f := f) ⟨(hp s' l).1, ?_⟩⟩
    rw [(hp s a).2, (hp s' l).2]; exact m
  · intro s s' t ⟨a, b⟩ ht w
    have l := hw s s' a w
    refine ⟨l, rc_Rw _ _ b ht ⟨(hp s' l).1, ?_⟩⟩
    rw [(hp s a).2, (hp s' l).2]; exact w
theorem rc_same {T U T' U' : Nat → Nat} (h0 : ph 0 = 0) (h0' : ps 0 = 0) (hp : ∀ s, s < 1024 → ps s < 1024 ∧ ph (ps s) = s) (hq : ∀ s, s < 1024 → ph s < 1024 ∧ ps (ph s) = s)
    (hm : ∀ e f s s', s < 1024 → mv e f s s' → s' < 1024) (hw : ∀ s s', s < 1024 → wt s s' → s' < 1024)
    (A : rc_Fin mv wt T U) (B : rc_Fin (rc_mY mv ph) (rc_wY wt ph) T' U') : (∀ s, s < 1024 → T' s = T (ph s)) ∧ (∀ e, U' e = U e) := by
  have toY : ∀ s t, s < 1024 → rc_R mv wt (ph s) t → rc_R (rc_mY mv ph) (rc_wY wt ph) s t := by
    intro s t hs r
    have := (rc_toY mv wt ph ps h0' hp hm hw r).2
    rw [(hq s hs).2] at this
    exact this
  have vX : ∀ e t, rc_V (rc_mY mv ph) (rc_wY wt ph) e t → rc_V mv wt e t := by
    intro e t ⟨f, s, s', r, m⟩
    refine ⟨f, ph s, ph s', rc_toX mv wt ph h0 r, ?_⟩
    rcases m with m | m
    · exact Or.inl m.2
    · exact Or.inr m.2
  have vY : ∀ e t, rc_V mv wt e t → rc_V (rc_mY mv ph) (rc_wY wt ph) e t := by
    intro e t ⟨f, s, s', r, m⟩
    obtain ⟨a, b⟩ := rc_toY mv wt ph ps h0' hp hm hw r
    have l : s' < 1024 := by
      rcases m with m | m
      · exact hm _ _ _ _ a m
      · exact hm _ _ _ _ a m
    refine ⟨f, ps s, ps s', b, ?_⟩
    unfold rc_mY
    rw [(hp s a).2, (hp s' l).2]
    rcases m with m | m
    · exact Or.inl ⟨(hp s' l).1, m⟩
    · exact Or.inr ⟨(hp s' l).1, m⟩
  refine ⟨fun s hs => ?_, fun e => ?_⟩
  · obtain ⟨a1, a2⟩ := A.1 (ph s) (hq s hs).1
    obtain ⟨b1, b2⟩ := B.1 s hs
    refine rc_uni (Q := fun t => rc_R mv wt (ph s) t) ?_ (fun t r => b2 t (toY s t hs r)) a1 a2
    rcases b1 with z | ⟨z, r⟩
    · exact Or.inl z
    · exact Or.inr ⟨z, rc_toX mv wt ph h0 r⟩
  · obtain ⟨a1, a2⟩ := A.2 e
    obtain ⟨b1, b2⟩ := B.2 e
    refine rc_uni (Q := fun t => rc_V mv wt e t) ?_ (fun t r => b2 t (vY e t r)) a1 a2
    rcases b1 with z | ⟨z, r⟩
    · exact Or.inl z
    · exact Or.inr ⟨z, vX e _ r⟩
end
end
section
/-! The table of edges and places as naturals, and what moves and waits there are by it. A state's code (the component's): a + 4 * b + 16 * x + 128 * y -/
section
variable (c : Nat) (pr so ta rs sg le gr bd ur : Nat → Nat)
def tp_G : Prop := c ≤ 12 ∧ (∀ j, pr j < 2) ∧ (∀ j, so j < 4) ∧ (∀ j, ta j < 4) ∧ (∀ j, rs j < 4) ∧ (∀ j, sg j < 5) ∧ (∀ j, le j < 7) ∧ (∀ j, gr j < 8) ∧ (∀ j, bd j < 8) ∧ (∀ j, ur j < 2)
def tp_mk (a b x y : Nat) : Nat := a + 4 * b + 16 * x + 128 * y
theorem tp_mk_lt {a b x y : Nat} (ha : a < 4) (hb : b < 4) (hx : x < 8) (hy : y < 8) : tp_mk a b x y < 1024 := by
  unfold tp_mk; omega
theorem tp_mk_p {a b x y : Nat} (ha : a < 4) (hb : b < 4) (hx : x < 8) (hy : y < 8) : tp_mk a b x y % 4 = a ∧ tp_mk a b x y / 4 % 4 = b ∧ tp_mk a b x y / 16 % 8 = x ∧ tp_mk a b x y / 128 % 8 = y := by
  unfold tp_mk; omega
theorem tp_mk_of {s : Nat} (h : s < 1024) : tp_mk (s % 4) (s / 4 % 4) (s / 16 % 8) (s / 128 % 8) = s := by
  unfold tp_mk; omega
/-- the place of process p -/
def tp_pl (s p : Nat) : Nat := if p = 0 then s % 4 else s / 4 % 4
def tp_ck (s k : Nat) : Nat := if k = 0 then s / 16 % 8 else s / 128 % 8
theorem tp_pl_lt (s p : Nat) : tp_pl s p < 4 := by
  unfold tp_pl; split <;> omega
theorem tp_ck_lt (s k : Nat) : tp_ck s k < 8 := by
  unfold tp_ck; split <;> omega
/-- edge e may be taken in s -/
def tp_op (e s : Nat) : Prop := tp_pl s (pr e) = so e ∧ (le (2 * e) ≤ tp_ck s 0 ∧ tp_ck s 0 ≤ gr (2 * e)) ∧ (le (2 * e + 1) ≤ tp_ck s 1 ∧ tp_ck s 1 ≤ gr (2 * e + 1))
/-- the state behind edge e, whatever the bounds say -/
def tp_fo (e s : Nat) : Nat := tp_mk (if pr e = 0 then ta e else s % 4) (if pr e = 0 then s / 4 % 4 else ta e) (if rs e % 2 = 1 then 0 else s / 16 % 8) (if rs e / 2 = 1 then 0 else s / 128 % 8)
/-- no clock is above a bound -/
def tp_kb (s : Nat) : Prop := (tp_ck s 0 ≤ bd (2 * tp_pl s 0) ∧ tp_ck s 1 ≤ bd (2 * tp_pl s 0 + 1)) ∧ (tp_ck s 0 ≤ bd (2 * (4 + tp_pl s 1)) ∧ tp_ck s 1 ≤ bd (2 * (4 + tp_pl s 1) + 1))
def tp_im (e f : Nat) : Prop := (e = f ∧ sg e = 0) ∨ (e ≠ f ∧ pr e = 0 ∧ pr f = 1 ∧ sg e ≠ 0 ∧ sg f ≠ 0 ∧ (sg e = sg f + 2 ∨ sg f = sg e + 2))
def tp_mv (e f s s' : Nat) : Prop := e < c ∧ f < c ∧ tp_im pr sg e f ∧ tp_op pr so le gr e s ∧ tp_op pr so le gr f s ∧ s' = tp_fo pr ta rs f (tp_fo pr ta rs e s) ∧ tp_kb bd s'
def tp_in (x : Nat) : Nat := if x < 7 then x + 1 else 7
def tp_wo (s : Nat) : Nat := tp_mk (s % 4) (s / 4 % 4) (tp_in (s / 16 % 8)) (tp_in (s / 128 % 8))
def tp_wt (s s' : Nat) : Prop := ur (tp_pl s 0) = 0 ∧ ur (4 + tp_pl s 1) = 0 ∧ s' = tp_wo s ∧ tp_kb bd s'
theorem tp_in_lt (x : Nat) : tp_in x < 8 := by
  unfold tp_in; split <;> omega
theorem tp_wo_lt (s : Nat) : tp_wo s < 1024 := tp_mk_lt (by omega) (by omega) (tp_in_lt _) (tp_in_lt _)
theorem tp_fo_lt {e s : Nat} (h : ta e < 4) : tp_fo pr ta rs e s < 1024 := by
  unfold tp_fo
  apply tp_mk_lt
  · split <;> omega
  · split <;> omega
  · split <;> omega
  · split <;> omega
theorem tp_fo_p {e s : Nat} (h : ta e < 4) : tp_fo pr ta rs e s % 4 = (if pr e = 0 then ta e else s % 4) ∧ tp_fo pr ta rs e s / 4 % 4 = (if pr e = 0 then s / 4 % 4 else ta e) ∧ tp_fo pr ta rs e s / 16 % 8 = (if rs e % 2 = 1 then 0 else s / 16 % 8) ∧ tp_fo pr ta rs e s / 128 % 8 = (if rs e / 2 = 1 then 0 else s / 128 % 8) := by
  unfold tp_fo
  apply tp_mk_p
  · split <;> omega
  · split <;> omega
  · split <;> omega
  · split <;> omega
/-- a silent move, twice, is the move once -/
theorem tp_fo2 {e s : Nat} (h : ta e < 4) : tp_fo pr ta rs e (tp_fo pr ta rs e s) = tp_fo pr ta rs e s := by
  obtain ⟨h1, h2, h3, h4⟩ := tp_fo_p pr ta rs (s := s) h
  show tp_mk _ _ _ _ = tp_mk _ _ _ _
  rw [h1, h2, h3, h4]
  congr 1 <;> split <;> rfl
theorem tp_mv_lt {e f s s' : Nat} (h : ∀ j, ta j < 4) (m : tp_mv c pr so ta rs sg le gr bd e f s s') : s' < 1024 := by
  obtain ⟨_, _, _, _, _, m, _⟩ := m
  rw [m]; exact tp_fo_lt pr ta rs (h f)
theorem tp_wt_lt {s s' : Nat} (m : tp_wt bd ur s s') : s' < 1024 := by
  obtain ⟨_, _, m, _⟩ := m
  rw [m]; exact tp_wo_lt s
end
/-! the reference's code: 64 * (a + 4 * b) + 8 * x + y -/
def tp_ph (q : Nat) : Nat := tp_mk (q / 64 % 4) (q / 256 % 4) (q / 8 % 8) (q % 8)
def tp_ps (s : Nat) : Nat := 64 * (s % 16) + 8 * (s / 16 % 8) + s / 128 % 8
theorem tp_ph_0 : tp_ph 0 = 0 := rfl
theorem tp_ps_0 : tp_ps 0 = 0 := rfl
theorem tp_ph_ps_t : ∀ s, s < 1024 → tp_ps s < 1024 ∧ tp_ph (tp_ps s) = s := by decide +kernel
theorem tp_ph_ps {s : Nat} (h : s < 1024) : tp_ps s < 1024 ∧ tp_ph (tp_ps s) = s := tp_ph_ps_t s h
theorem tp_ps_ph_t : ∀ q, q < 1024 → tp_ph q < 1024 ∧ tp_ps (tp_ph q) = q := by decide +kernel
theorem tp_ps_ph {q : Nat} (h : q < 1024) : tp_ph q < 1024 ∧ tp_ps (tp_ph q) = q := tp_ps_ph_t q h
theorem tp_ph_p (q : Nat) : tp_ph q % 4 = q / 64 % 4 ∧ tp_ph q / 4 % 4 = q / 256 % 4 ∧ tp_ph q / 16 % 8 = q / 8 % 8 ∧ tp_ph q / 128 % 8 = q % 8 :=
  tp_mk_p (by omega) (by omega) (by omega) (by omega)
section
variable (pr ta rs : Nat → Nat)
/-- the reference's move of a location, its clearing of clocks -/
def ty_mo (e q : Nat) : Nat := 64 * (if pr e = 0 then q / 64 / 4 * 4 + ta e else q / 64 % 4 + 4 * ta e) + q % 64
def ty_cl (q set : Nat) : Nat := q / 64 * 64 + 8 * (if set % 2 = 1 then 0 else q / 8 % 8) + (if set / 2 = 1 then 0 else q % 8)
theorem ty_mo_p {e q : Nat} (h : ta e < 4) (hq : q < 1024) : ty_mo pr ta e q < 1024 ∧ ty_mo pr ta e q / 64 % 4 = (if pr e = 0 then ta e else q / 64 % 4) ∧ ty_mo pr ta e q / 256 % 4 = (if pr e = 0 then q / 256 % 4 else ta e) ∧ ty_mo pr ta e q / 8 % 8 = q / 8 % 8 ∧ ty_mo pr ta e q % 8 = q % 8 := by
  unfold ty_mo
  by_cases z : pr e = 0
  · rw [if_pos z, if_pos z, if_pos z]; omega
  · rw [if_neg z, if_neg z, if_neg z]; omega
theorem ty_cl_p {q set : Nat} (hq : q < 1024) : ty_cl q set < 1024 ∧ ty_cl q set / 64 % 4 = q / 64 % 4 ∧ ty_cl q set / 256 % 4 = q / 256 % 4 ∧ ty_cl q set / 8 % 8 = (if set % 2 = 1 then 0 else q / 8 % 8) ∧ ty_cl q set % 8 = (if set / 2 = 1 then 0 else q % 8) := by
  have key : ∀ a b : Nat, a < 8 → b < 8 → q / 64 * 64 + 8 * a + b < 1024 ∧ (q / 64 * 64 + 8 * a + b) / 64 % 4 = q / 64 % 4 ∧ (q / 64 * 64 + 8 * a + b) / 256 % 4 = q / 256 % 4 ∧ (q / 64 * 64 + 8 * a + b) / 8 % 8 = a ∧ (q / 64 * 64 + 8 * a + b) % 8 = b := by
    intro a b ha hb; omega
  exact key _ _ (by split <;> omega) (by split <;> omega)
theorem ty_silent {e q : Nat} (h : ta e < 4) (hq : q < 1024) : tp_ph (ty_cl (ty_mo pr ta e q) (rs e)) = tp_fo pr ta rs e (tp_ph q) := by
  obtain ⟨m0, m1, m2, m3, m4⟩ := ty_mo_p pr ta h hq
  obtain ⟨_, c1, c2, c3, c4⟩ := ty_cl_p (set := rs e) m0
  obtain ⟨p1, p2, p3, p4⟩ := tp_ph_p q
  show tp_mk _ _ _ _ = tp_mk _ _ _ _
  rw [c1, c2, c3, c4, m1, m2, m3, m4, p1, p2, p3, p4]
theorem ty_or : ∀ a, a < 4 → ∀ b, b < 4 → ((a ||| b) % 2 = 1 ↔ (a % 2 = 1 ∨ b % 2 = 1)) ∧ ((a ||| b) / 2 = 1 ↔ (a / 2 = 1 ∨ b / 2 = 1)) ∧ a ||| b < 4 := by decide
theorem ty_joint {e f q : Nat} (h : ∀ j, ta j < 4) (hr : ∀ j, rs j < 4) (hq : q < 1024) : tp_ph (ty_cl (ty_mo pr ta f (ty_mo pr ta e q)) (rs e ||| rs f)) = tp_fo pr ta rs f (tp_fo pr ta rs e (tp_ph q)) := by
  obtain ⟨m0, m1, m2, m3, m4⟩ := ty_mo_p pr ta (h e) hq
  obtain ⟨n0, n1, n2, n3, n4⟩ := ty_mo_p pr ta (h f) m0
  obtain ⟨_, c1, c2, c3, c4⟩ := ty_cl_p (set := rs e ||| rs f) n0
  obtain ⟨p1, p2, p3, p4⟩ := tp_ph_p q
  obtain ⟨f1, f2, f3, f4⟩ := tp_fo_p pr ta rs (s := tp_ph q) (h e)
  obtain ⟨o1, o2, _⟩ := ty_or (rs e) (hr e) (rs f) (hr f)
  show tp_mk _ _ _ _ = tp_mk _ _ _ _
  rw [c1, c2, c3, c4, n1, n2, n3, n4, m1, m2, m3, m4, f1, f2, f3, f4, p1, p2, p3, p4]
  have e3 : (if (rs e ||| rs f) % 2 = 1 then 0 else q / 8 % 8) = (if rs f % 2 = 1 then 0 else if rs e % 2 = 1 then 0 else q / 8 % 8) := by
    by_cases a : rs e % 2 = 1 <;> by_cases b : rs f % 2 = 1 <;> simp [o1, a, b]
  have e4 : (if (rs e ||| rs f) / 2 = 1 then 0 else q % 8) = (if rs f / 2 = 1 then 0 else if rs e / 2 = 1 then 0 else q % 8) := by
    by_cases a : rs e / 2 = 1 <;> by_cases b : rs f / 2 = 1 <;> simp [o2, a, b]
  rw [e3, e4]
end
end
section
/-! rows of the kit, pasted -/
theorem pk_us {f : Nat → Int32} {k : Nat} {x : Int32} : upd f k x k = x := if_pos rfl
theorem pk_un {f : Nat → Int32} {k j : Nat} {x : Int32} (h : j ≠ k) : upd f k x j = f j := if_neg h
theorem pk_sub {a b : Nat} (h : b ≤ a) : nI a - nI b = nI (a - b) := by
  obtain ⟨c, rfl⟩ : ∃ c, a = c + b := ⟨a - b, by omega⟩
  rw [← nI_add, Int32.add_sub_cancel, Nat.add_sub_cancel]
theorem pk_m1 (n : Nat) : nI (n + 1) + (-1) = nI n := by
  rw [← nI_1, Int32.add_assoc, show (1 : Int32) + (-1) = 0 from rfl, Int32.add_zero]
theorem pk_mul (a b : Nat) : nI a * nI b = nI (a * b) := (Int32.ofNat_mul a b).symm
theorem pk_div {a d : Nat} (ha : a < 2 ^ 31) (h0 : 0 < d) (hd : d < 2 ^ 31) : nI a / nI d = nI (a / d) := by
  apply Int32.toInt_inj.mp
  rw [lg_idiv_nonneg (by rw [nI_toInt ha]; omega) (by rw [nI_toInt hd]; omega), nI_toInt ha, nI_toInt hd, nI_toInt (Nat.lt_of_le_of_lt (Nat.div_le_self a d) ha)]
  first | rfl | exact (Int.natCast_ediv _ _).symm
theorem pk_rem {a d : Nat} (ha : a < 2 ^ 31) (h0 : 0 < d) (hd : d < 2 ^ 31) : nI a - nI a / nI d * nI d = nI (a % d) := by
  rw [pk_div ha h0 hd, pk_mul, pk_sub (Nat.div_mul_le_self a d)]
  exact congrArg nI (by have := Nat.div_add_mod' a d; omega)
theorem pk_ix (x : Int32) {n : Nat} (hn : n < 2 ^ 31) : x < 0 ∨ nI n ≤ x ∨ ∃ j : Nat, j < n ∧ x = nI j := by
  by_cases h : x < 0
  · exact Or.inl h
  · obtain ⟨j, hj, rfl⟩ := nI_of h
    by_cases h2 : j < n
    · exact Or.inr (Or.inr ⟨j, h2, rfl⟩)
    · exact Or.inr (Or.inl (nI_le (by omega) hj))
theorem pk_le {x y : Int32} {A B : Prop} (a b : Nat) (f : a ≤ b → A) (g : b < a → B) (hx : x = nI a := by rfl) (hy : y = nI b := by rfl) (ha : a < 2 ^ 31 := by omega) (hb : b < 2 ^ 31 := by omega) : (x ≤ y → A) ∧ (¬ x ≤ y → B) := by
  subst hx hy
  rw [nI_leI ha hb]
  exact ⟨f, fun z => g (by omega)⟩
theorem pk_lt {x y : Int32} {A B : Prop} (a b : Nat) (f : a < b → A) (g : b ≤ a → B) (hx : x = nI a := by rfl) (hy : y = nI b := by rfl) (ha : a < 2 ^ 31 := by omega) (hb : b < 2 ^ 31 := by omega) : (x < y → A) ∧ (¬ x < y → B) := by
  subst hx hy
  rw [nI_ltI ha hb]
  exact ⟨f, fun z => g (by omega)⟩
theorem pk_eq {x y : Int32} {A B : Prop} (a b : Nat) (f : a = b → A) (g : a ≠ b → B) (hx : x = nI a := by rfl) (hy : y = nI b := by rfl) (ha : a < 2 ^ 31 := by omega) (hb : b < 2 ^ 31 := by omega) : (x = y → A) ∧ (¬ x = y → B) := by
  subst hx hy
  rw [nI_eq ha hb]
  exact ⟨f, g⟩
theorem pk_in {x : Int32} (n N : Nat) (h : n < N) (hx : x = nI n := by rfl) (hN : N < 2 ^ 31 := by omega) : vp_in x N := by
  subst hx
  exact vp_in_nI h hN
theorem pk_cl {x : Int32} (n : Nat) (hx : x = nI n := by rfl) (h : n < 2 ^ 31 := by omega) : x.toNatClampNeg = n := by
  subst hx
  exact nI_clamp h
theorem pk_tn {n : Nat} (h : n < 2 ^ 32) : (nI n).toBitVec.toNat = n := Nat.mod_eq_of_lt h
theorem pk_and (x : Int32) {m : Int32} (k : Nat) (hm : m.toBitVec.toNat = 2 ^ k - 1) : x &&& m = nI (x.toBitVec.toNat % 2 ^ k) := by
  apply Int32.toBitVec_inj.mp
  apply BitVec.eq_of_toNat_eq
  rw [Int32.toBitVec_and, BitVec.toNat_and, hm, Nat.and_two_pow_sub_one_eq_mod]
  show _ = (BitVec.ofNat 32 _).toNat
  rw [BitVec.toNat_ofNat]
  exact (Nat.mod_eq_of_lt (Nat.lt_of_le_of_lt (Nat.mod_le _ _) x.toBitVec.isLt)).symm
theorem pk_andN {n : Nat} (h : n < 2 ^ 32) {m : Int32} (k : Nat) (hm : m.toBitVec.toNat = 2 ^ k - 1) : nI n &&& m = nI (n % 2 ^ k) := by
  rw [pk_and _ k hm, pk_tn h]
theorem pk_shl (a s : Int32) (k : Nat) (hs : (s.toBitVec.smod 32).toNat = k) : (a <<< s).toBitVec.toNat = a.toBitVec.toNat * 2 ^ k % 2 ^ 32 := by
  show (a.toBitVec <<< (s.toBitVec.smod 32).toNat).toNat = _
  rw [hs, BitVec.toNat_shiftLeft, Nat.shiftLeft_eq]
theorem pk_shlN {n : Nat} (s : Int32) (k : Nat) (hs : (s.toBitVec.smod 32).toNat = k) (h : n * 2 ^ k < 2 ^ 32) : nI n <<< s = nI (n * 2 ^ k) := by
  apply Int32.toBitVec_inj.mp
  apply BitVec.eq_of_toNat_eq
  have hn : n < 2 ^ 32 := Nat.lt_of_le_of_lt (Nat.le_mul_of_pos_right n (Nat.two_pow_pos k)) h
  rw [pk_shl _ _ k hs, pk_tn hn, pk_tn h, Nat.mod_eq_of_lt h]
theorem pk_shr (a s : Int32) (k : Nat) (hs : (s.toBitVec.smod 32).toNat = k) : (a >>> s).toInt = a.toInt >>> k := by
  show (a.toBitVec.sshiftRight (s.toBitVec.smod 32).toNat).toInt = _
  rw [hs, BitVec.toInt_sshiftRight]
  rfl
theorem pk_shrN {n : Nat} (h : n < 2 ^ 31) (s : Int32) (k : Nat) (hs : (s.toBitVec.smod 32).toNat = k) : nI n >>> s = nI (n / 2 ^ k) := by
  apply Int32.toInt_inj.mp
  have h2 : n / 2 ^ k ≤ n := Nat.div_le_self _ _
  rw [pk_shr _ _ k hs, nI_toInt h, nI_toInt (by omega), Int.shiftRight_eq_div_pow]
  rfl
theorem pk_least (P : Nat → Prop) (h : ∃ k, P k) : ∃ k, P k ∧ ∀ j, j < k → ¬ P j := by
  obtain ⟨k, hk⟩ := h
  induction k using Nat.strongRecOn with
  | ind k ih =>
    by_cases e : ∃ j, j < k ∧ P j
    · obtain ⟨j, hj, pj⟩ := e
      exact ih j hj pj
    · exact ⟨k, hk, fun j hj pj => e ⟨j, hj, pj⟩⟩
theorem nx_and (a b : Nat) : nI a &&& nI b = nI (a &&& b) := by
  apply Int32.toBitVec_inj.1
  show BitVec.ofNat 32 a &&& BitVec.ofNat 32 b = BitVec.ofNat 32 (a &&& b)
  apply BitVec.eq_of_getLsbD_eq
  intro i hi
  simp [hi]
end
section
/-! values: the component's bits, the reference's quotients, as naturals -/
def tp_I (f : Nat → Nat) : Nat → Int32 := fun j => nI (f j)
theorem tp_I_up (f : Nat → Nat) (k v : Nat) : upd (tp_I f) k (nI v) = tp_I (rc_up f k v) := by
  funext j
  show (if j = k then nI v else nI (f j)) = nI (if j = k then v else f j)
  split <;> rfl
theorem bx_or (a b : Nat) : nI a ||| nI b = nI (a ||| b) := by
  apply Int32.toBitVec_inj.1
  show BitVec.ofNat 32 a ||| BitVec.ofNat 32 b = BitVec.ofNat 32 (a ||| b)
  apply BitVec.eq_of_getLsbD_eq
  intro i hi
  simp [hi]
theorem bx_2 (e k : Nat) : 2 * nI e + nI k = nI (2 * e + k) := by
  rw [show (2 : Int32) = nI 2 from rfl, pk_mul, nI_add]
theorem bx_4 (e k : Nat) : 4 * nI e + nI k = nI (4 * e + k) := by
  rw [show (4 : Int32) = nI 4 from rfl, pk_mul, nI_add]
theorem bx_pl {s p : Nat} (hs : s < 1024) (hp : p < 2) : (nI s >>> ((2 * nI p) &&& 31)) &&& 3 = nI (tp_pl s p) := by
  have hs' : s < 2 ^ 31 := by omega
  match p, hp with
  | 0, _ =>
    rw [pk_shrN hs' ((2 * nI 0) &&& 31) 0 (by decide), pk_andN (by omega) 2 (by decide)]
    unfold tp_pl
    rw [if_pos rfl]
    exact congrArg nI (by omega)
  | 1, _ =>
    rw [pk_shrN hs' ((2 * nI 1) &&& 31) 2 (by decide), pk_andN (by omega) 2 (by decide)]
    unfold tp_pl
    rw [if_neg (by decide)]
theorem bx_ck {s k : Nat} (hs : s < 1024) (hk : k < 2) : (nI s >>> ((4 + (3 * nI k)) &&& 31)) &&& 7 = nI (tp_ck s k) := by
  have hs' : s < 2 ^ 31 := by omega
  match k, hk with
  | 0, _ =>
    rw [pk_shrN hs' ((4 + (3 * nI 0)) &&& 31) 4 (by decide), pk_andN (by omega) 3 (by decide)]
    unfold tp_ck
    rw [if_pos rfl]
  | 1, _ =>
    rw [pk_shrN hs' ((4 + (3 * nI 1)) &&& 31) 7 (by decide), pk_andN (by omega) 3 (by decide)]
    unfold tp_ck
    rw [if_neg (by decide)]
def tp_wc (s k v : Nat) : Nat := if k = 0 then tp_mk (s % 4) (s / 4 % 4) v (s / 128 % 8) else tp_mk (s % 4) (s / 4 % 4) (s / 16 % 8) v
def tp_lo (s p t : Nat) : Nat := if p = 0 then tp_mk t (s / 4 % 4) (s / 16 % 8) (s / 128 % 8) else tp_mk (s % 4) t (s / 16 % 8) (s / 128 % 8)
theorem bx_t1 : ∀ s, s < 1024 → ∀ v, v < 8 → (s &&& 4294967183) ||| (v * 2 ^ 4) = tp_mk (s % 4) (s / 4 % 4) v (s / 128 % 8) := by decide +kernel
theorem bx_t2 : ∀ s, s < 1024 → ∀ v, v < 8 → (s &&& 4294966399) ||| (v * 2 ^ 7) = tp_mk (s % 4) (s / 4 % 4) (s / 16 % 8) v := by decide +kernel
theorem bx_t3 : ∀ s, s < 1024 → ∀ v, v < 4 → (s &&& 4294967292) ||| (v * 2 ^ 0) = tp_mk v (s / 4 % 4) (s / 16 % 8) (s / 128 % 8) := by decide +kernel
theorem bx_t4 : ∀ s, s < 1024 → ∀ v, v < 4 → (s &&& 4294967283) ||| (v * 2 ^ 2) = tp_mk (s % 4) v (s / 16 % 8) (s / 128 % 8) := by decide +kernel
theorem bx_m1 : (((7 : Int32) <<< ((4 + (3 * nI 0)) &&& 31)) ^^^ (-1)) = nI 4294967183 := by decide +kernel
theorem bx_m2 : (((7 : Int32) <<< ((4 + (3 * nI 1)) &&& 31)) ^^^ (-1)) = nI 4294966399 := by decide +kernel
theorem bx_m3 : (((3 : Int32) <<< ((2 * nI 0) &&& 31)) ^^^ (-1)) = nI 4294967292 := by decide +kernel
theorem bx_m4 : (((3 : Int32) <<< ((2 * nI 1) &&& 31)) ^^^ (-1)) = nI 4294967283 := by decide +kernel
theorem bx_wc {s k v : Nat} (hs : s < 1024) (hk : k < 2) (hv : v < 8) : (nI s &&& (((7 : Int32) <<< ((4 + (3 * nI k)) &&& 31)) ^^^ (-1))) ||| (nI v <<< ((4 + (3 * nI k)) &&& 31)) = nI (tp_wc s k v) := by
  match k, hk with
  | 0, _ =>
    rw [bx_m1, pk_shlN ((4 + (3 * nI 0)) &&& 31) 4 (by decide) (by omega), nx_and, bx_or, bx_t1 s hs v hv]
    unfold tp_wc
    rw [if_pos rfl]
  | 1, _ =>
    rw [bx_m2, pk_shlN ((4 + (3 * nI 1)) &&& 31) 7 (by decide) (by omega), nx_and, bx_or, bx_t2 s hs v hv]
    unfold tp_wc
    rw [if_neg (by decide)]
theorem bx_lo {s p t : Nat} (hs : s < 1024) (hp : p < 2) (ht : t < 4) : (nI s &&& (((3 : Int32) <<< ((2 * nI p) &&& 31)) ^^^ (-1))) ||| (nI t <<< ((2 * nI p) &&& 31)) = nI (tp_lo s p t) := by
  match p, hp with
  | 0, _ =>
    rw [bx_m3, pk_shlN ((2 * nI 0) &&& 31) 0 (by decide) (by omega), nx_and, bx_or, bx_t3 s hs t ht]
    unfold tp_lo
    rw [if_pos rfl]
  | 1, _ =>
    rw [bx_m4, pk_shlN ((2 * nI 1) &&& 31) 2 (by decide) (by omega), nx_and, bx_or, bx_t4 s hs t ht]
    unfold tp_lo
    rw [if_neg (by decide)]
theorem bx_rs : ∀ r, r < 4 → (nI r >>> (nI 0 &&& 31)) &&& 1 = nI (r % 2) ∧ (nI r >>> (nI 1 &&& 31)) &&& 1 = nI (r / 2) := by decide +kernel
theorem bx_sg : ∀ a, a < 5 → ∀ b, b < 5 → ((nI a - nI b = 2 ↔ a = b + 2) ∧ (nI a - nI b = -2 ↔ b = a + 2)) := by decide +kernel
theorem tp_wc_lt {s k v : Nat} (hv : v < 8) : tp_wc s k v < 1024 := by
  unfold tp_wc; split
  · exact tp_mk_lt (by omega) (by omega) hv (by omega)
  · exact tp_mk_lt (by omega) (by omega) (by omega) hv
theorem tp_lo_lt {s p t : Nat} (ht : t < 4) : tp_lo s p t < 1024 := by
  unfold tp_lo; split
  · exact tp_mk_lt ht (by omega) (by omega) (by omega)
  · exact tp_mk_lt (by omega) ht (by omega) (by omega)
theorem tp_wc_p {s k v : Nat} (hv : v < 8) : tp_wc s k v % 4 = s % 4 ∧ tp_wc s k v / 4 % 4 = s / 4 % 4 ∧ tp_wc s k v / 16 % 8 = (if k = 0 then v else s / 16 % 8) ∧ tp_wc s k v / 128 % 8 = (if k = 0 then s / 128 % 8 else v) := by
  unfold tp_wc; split
  · exact tp_mk_p (by omega) (by omega) hv (by omega)
  · exact tp_mk_p (by omega) (by omega) (by omega) hv
theorem tp_lo_p {s p t : Nat} (ht : t < 4) : tp_lo s p t % 4 = (if p = 0 then t else s % 4) ∧ tp_lo s p t / 4 % 4 = (if p = 0 then s / 4 % 4 else t) ∧ tp_lo s p t / 16 % 8 = s / 16 % 8 ∧ tp_lo s p t / 128 % 8 = s / 128 % 8 := by
  unfold tp_lo; split
  · exact tp_mk_p ht (by omega) (by omega) (by omega)
  · exact tp_mk_p (by omega) ht (by omega) (by omega)
/-- the component's two steps of a move: the location, then the clocks -/
theorem tp_fo_x {pr ta rs : Nat → Nat} {e s : Nat} (h : ta e < 4) :
    tp_fo pr ta rs e s = (if rs e / 2 = 1 then tp_wc (if rs e % 2 = 1 then tp_wc (tp_lo s (pr e) (ta e)) 0 0 else tp_lo s (pr e) (ta e)) 1 0 else (if rs e % 2 = 1 then tp_wc (tp_lo s (pr e) (ta e)) 0 0 else tp_lo s (pr e) (ta e))) := by
  obtain ⟨l1, l2, l3, l4⟩ := tp_lo_p (s := s) (p := pr e) h
  have l0 := tp_lo_lt (s := s) (p := pr e) h
  have key : ∀ q, q < 1024 → q = tp_mk (q % 4) (q / 4 % 4) (q / 16 % 8) (q / 128 % 8) := fun q hq => (tp_mk_of hq).symm
  unfold tp_fo
  by_cases a : rs e % 2 = 1
  · obtain ⟨w1, w2, w3, w4⟩ := tp_wc_p (s := tp_lo s (pr e) (ta e)) (k := 0) (v := 0) (by omega)
    rw [if_pos rfl] at w3 w4
    have w0 := tp_wc_lt (s := tp_lo s (pr e) (ta e)) (k := 0) (v := 0) (by omega)
    by_cases b : rs e / 2 = 1
    · rw [if_pos a, if_pos b, if_pos b, if_pos a]
      show _ = tp_mk _ _ _ _
      rw [w1, w2, w3, l1, l2]
    · rw [if_pos a, if_neg b, if_neg b, if_pos a, key _ w0, w1, w2, w3, w4, l1, l2, l4]
  · by_cases b : rs e / 2 = 1
    · rw [if_neg a, if_pos b, if_pos b, if_neg a]
      show _ = tp_mk _ _ _ _
      rw [l1, l2, l3]
    · rw [if_neg a, if_neg b, if_neg b, if_neg a, key _ l0, l1, l2, l3, l4]
/-- waiting, clock by clock -/
theorem tp_wo_x (s : Nat) : tp_wo s = tp_wc (tp_wc s 0 (tp_in (s / 16 % 8))) 1 (tp_in (s / 128 % 8)) := by
  obtain ⟨w1, w2, w3, w4⟩ := tp_wc_p (s := s) (k := 0) (v := tp_in (s / 16 % 8)) (tp_in_lt _)
  rw [if_pos rfl] at w3
  show _ = tp_mk _ _ _ _
  rw [w1, w2, w3]
  rfl
theorem bx_ite {P : Prop} {_ : Decidable P} {a b m : Nat} (ha : a < m) (hb : b < m) : (if P then a else b) < m := by
  split
  · exact ha
  · exact hb
end
section
/-! the component's small methods, each with a general post -/
section
variable (c : Nat) (pr so ta rs sg le gr bd ur : Nat → Nat)
abbrev xs_S (n : Int32) (fd ft us : Nat → Int32) : SX := (nI c, n, tp_I pr, tp_I so, tp_I ta, tp_I rs, tp_I sg, tp_I le, tp_I gr, tp_I bd, tp_I ur, fd, ft, us)
end
section
variable {c : Nat} {pr so ta rs sg le gr bd ur : Nat → Nat}
variable {n : Int32} {fd ft us : Nat → Int32}
theorem xm_location {post : Int32 → Prop} {s p : Nat} (hs : s < 1024) (hp : p < 2) (h : post (nI (tp_pl s p))) : wpX_location post (xs_S c pr so ta rs sg le gr bd ur n fd ft us) (nI s) (nI p) := by
  show post _
  rw [bx_pl hs hp]; exact h
theorem xm_clock {post : Int32 → Prop} {s k : Nat} (hs : s < 1024) (hk : k < 2) (h : post (nI (tp_ck s k))) : wpX_clock post (xs_S c pr so ta rs sg le gr bd ur n fd ft us) (nI s) (nI k) := by
  show post _
  rw [bx_ck hs hk]; exact h
theorem xm_withClock {post : Int32 → Prop} {s k v : Nat} (hs : s < 1024) (hk : k < 2) (hv : v < 8) (h : post (nI (tp_wc s k v))) : wpX_withClock post (xs_S c pr so ta rs sg le gr bd ur n fd ft us) (nI s) (nI k) (nI v) := by
  show ∀ y, y = 4 + 3 * nI k → post _
  intro y ey
  rw [ey, bx_wc hs hk hv]; exact h
theorem xm_al24 {post : Int32 → Prop} {s e k m : Nat} (G : tp_G c pr so ta rs sg le gr bd ur) (hs : s < 1024) (he : e < 12) (hk : k < 2)
    (ok : le (2 * e + k) ≤ tp_ck s k ∧ tp_ck s k ≤ gr (2 * e + k) → wX_allows_24 post (nI s) (nI e) (nI c) n (tp_I pr) (tp_I so) (tp_I ta) (tp_I rs) (tp_I sg) (tp_I le) (tp_I gr) (tp_I bd) (tp_I ur) fd ft us m (nI (k + 1)))
    (bad : ¬ (le (2 * e + k) ≤ tp_ck s k ∧ tp_ck s k ≤ gr (2 * e + k)) → post 0) : wX_allows_24 post (nI s) (nI e) (nI c) n (tp_I pr) (tp_I so) (tp_I ta) (tp_I rs) (tp_I sg) (tp_I le) (tp_I gr) (tp_I bd) (tp_I ur) fd ft us (m + 1) (nI k) := by
  obtain ⟨_, _, _, _, _, _, gl, gg, _, _⟩ := G
  have c8 := tp_ck_lt s k
  have l7 := gl (2 * e + k)
  have g8 := gg (2 * e + k)
  refine pk_le 2 k (fun z => by omega) (fun _ => ?_)
  refine xm_clock hs hk ?_
  rw [bx_2, nI_clamp (by omega)]
  refine ⟨vp_in_nI (by omega) (by omega), pk_lt (tp_ck s k) (le (2 * e + k)) (fun z => bad (by omega)) (fun z => ⟨vp_in_nI (by omega) (by omega), pk_le (tp_ck s k) (gr (2 * e + k)) (fun w => ?_) (fun w => bad (by omega))⟩)⟩
  exact nm_r (nI_1 k) (ok ⟨z, w⟩)
theorem xm_allows {post : Int32 → Prop} {s e : Nat} (G : tp_G c pr so ta rs sg le gr bd ur) (hs : s < 1024) (he : e < 12) (h1 : tp_op pr so le gr e s → post 1) (h0 : ¬ tp_op pr so le gr e s → post 0) : wpX_allows post (xs_S c pr so ta rs sg le gr bd ur n fd ft us) (nI s) (nI e) := by
  have gp := G.2.1 e
  have gs := G.2.2.1 e
  have hl := tp_pl_lt s (pr e)
  unfold wpX_allows
  dsimp only
  rw [nI_clamp (by omega)]
  refine ⟨vp_in_nI he (by omega), xm_location hs gp ⟨vp_in_nI he (by omega), pk_eq (tp_pl s (pr e)) (so e) (fun z => ⟨0 + 1 + 1 + 1, ?_⟩) (fun z => h0 (fun o => z o.1))⟩⟩
  refine xm_al24 (k := 0) G hs he (by omega) (fun a => ?_) (fun a => h0 (fun o => a o.2.1))
  refine xm_al24 (k := 1) G hs he (by omega) (fun b => ?_) (fun a => h0 (fun o => a o.2.2))
  exact br_t (by decide) (h1 ⟨z, a, b⟩)
theorem xm_kb21 {post : Int32 → Prop} {J : Int32 → Prop} {s p x k m : Nat} (G : tp_G c pr so ta rs sg le gr bd ur) (hs : s < 1024) (hx : x < 8) (hk : k < 2)
    (ok : tp_ck s k ≤ bd (2 * x + k) → wX_keepsBounds_21 post J (nI s) (nI p) (nI x) (nI c) n (tp_I pr) (tp_I so) (tp_I ta) (tp_I rs) (tp_I sg) (tp_I le) (tp_I gr) (tp_I bd) (tp_I ur) fd ft us m (nI (k + 1)))
    (bad : ¬ tp_ck s k ≤ bd (2 * x + k) → post 0) : wX_keepsBounds_21 post J (nI s) (nI p) (nI x) (nI c) n (tp_I pr) (tp_I so) (tp_I ta) (tp_I rs) (tp_I sg) (tp_I le) (tp_I gr) (tp_I bd) (tp_I ur) fd ft us (m + 1) (nI k) := by
  obtain ⟨_, _, _, _, _, _, _, _, gb, _⟩ := G
  have c8 := tp_ck_lt s k
  have b8 := gb (2 * x + k)
  refine pk_le 2 k (fun z => by omega) (fun _ => ?_)
  refine xm_clock hs hk ?_
  rw [bx_2, nI_clamp (by omega)]
  exact ⟨vp_in_nI (by omega) (by omega), pk_le (tp_ck s k) (bd (2 * x + k)) (fun w => nm_r (nI_1 k) (ok w)) (fun w => bad (by omega))⟩
theorem xm_kb2 {post : Int32 → Prop} {s p m : Nat} (G : tp_G c pr so ta rs sg le gr bd ur) (hs : s < 1024) (hp : p < 2)
    (ok : tp_ck s 0 ≤ bd (2 * (4 * p + tp_pl s p)) ∧ tp_ck s 1 ≤ bd (2 * (4 * p + tp_pl s p) + 1) → wX_keepsBounds_2 post (nI s) (nI c) n (tp_I pr) (tp_I so) (tp_I ta) (tp_I rs) (tp_I sg) (tp_I le) (tp_I gr) (tp_I bd) (tp_I ur) fd ft us m (nI (p + 1)))
    (bad : ¬ (tp_ck s 0 ≤ bd (2 * (4 * p + tp_pl s p)) ∧ tp_ck s 1 ≤ bd (2 * (4 * p + tp_pl s p) + 1)) → post 0) : wX_keepsBounds_2 post (nI s) (nI c) n (tp_I pr) (tp_I so) (tp_I ta) (tp_I rs) (tp_I sg) (tp_I le) (tp_I gr) (tp_I bd) (tp_I ur) fd ft us (m + 1) (nI p) := by
  have hl := tp_pl_lt s p
  refine pk_le 2 p (fun z => by omega) (fun _ => ?_)
  refine xm_location hs hp ?_
  refine nm_r (bx_4 p (tp_pl s p)) ⟨0 + 1 + 1 + 1, ?_⟩
  refine xm_kb21 (k := 0) G hs (by omega) (by omega) (fun a => ?_) (fun a => bad (fun o => a o.1))
  refine xm_kb21 (k := 1) G hs (by omega) (by omega) (fun b => ?_) (fun a => bad (fun o => a o.2))
  exact br_t (by decide) (nm_r (nI_1 p) (ok ⟨a, b⟩))
theorem xm_keepsBounds {post : Int32 → Prop} {s : Nat} (G : tp_G c pr so ta rs sg le gr bd ur) (hs : s < 1024) (h1 : tp_kb bd s → post 1) (h0 : ¬ tp_kb bd s → post 0) : wpX_keepsBounds post (xs_S c pr so ta rs sg le gr bd ur n fd ft us) (nI s) := by
  refine ⟨0 + 1 + 1 + 1, ?_⟩
  have e0 : 4 * 0 + tp_pl s 0 = tp_pl s 0 := by omega
  refine xm_kb2 (p := 0) G hs (by omega) (fun a => ?_) (fun a => h0 (fun o => a (by rw [e0]; exact o.1)))
  refine xm_kb2 (p := 1) G hs (by omega) (fun b => ?_) (fun a => h0 (fun o => a o.2))
  rw [e0] at a
  exact br_t (by decide) (h1 ⟨a, b⟩)
theorem xm_isMove {post : Int32 → Prop} {e f : Nat} (G : tp_G c pr so ta rs sg le gr bd ur) (he : e < 12) (hf : f < 12) (h1 : tp_im pr sg e f → post 1) (h0 : ¬ tp_im pr sg e f → post 0) : wpX_isMove post (xs_S c pr so ta rs sg le gr bd ur n fd ft us) (nI e) (nI f) := by
  obtain ⟨_, gp, _, _, _, gs, _, _, _, _⟩ := G
  have pe := gp e
  have pf := gp f
  have se := gs e
  have sf := gs f
  have ve : vp_in (nI e) 12 := vp_in_nI he (by omega)
  have vf : vp_in (nI f) 12 := vp_in_nI hf (by omega)
  unfold wpX_isMove
  dsimp only
  rw [nI_clamp (show e < 2 ^ 31 by omega), nI_clamp (show f < 2 ^ 31 by omega)]
  refine pk_eq e f (fun z => ⟨ve, pk_eq (sg e) 0 (fun w => h1 (Or.inl ⟨z, w⟩)) (fun w => h0 (fun o => ?_))⟩) (fun z => ⟨ve, pk_eq (pr e) 0 (fun a => ⟨vf, pk_eq (pr f) 1 (fun b => ⟨ve, pk_eq (sg e) 0 (fun w => h0 (fun o => ?_)) (fun x => ⟨vf, pk_eq (sg f) 0 (fun w => h0 (fun o => ?_)) (fun y => ⟨ve, vf, br_c (fun w => h1 (Or.inr ⟨z, a, b, x, y, ?_⟩)) (fun w => ⟨vf, ve, br_c (fun v => h1 (Or.inr ⟨z, a, b, x, y, ?_⟩)) (fun v => h0 (fun o => ?_))⟩)⟩)⟩)⟩) (fun w => h0 (fun o => ?_))⟩) (fun w => h0 (fun o => ?_))⟩)
  · rcases o with o | o
    · exact w o.2
    · exact o.1 z
  · rcases o with o | o
    · exact z o.1
    · exact o.2.2.2.1 w
  · rcases o with o | o
    · exact z o.1
    · exact o.2.2.2.2.1 w
  · exact Or.inl ((bx_sg _ se _ sf).1.mp w)
  · exact Or.inr ((bx_sg _ sf _ se).1.mp v)
  · rcases o with o | o
    · exact z o.1
    · rcases o.2.2.2.2.2 with q | q
      · exact w ((bx_sg _ se _ sf).1.mpr q)
      · exact v ((bx_sg _ sf _ se).1.mpr q)
  · rcases o with o | o
    · exact z o.1
    · exact w o.2.2.1
  · rcases o with o | o
    · exact z o.1
    · exact w o.2.1
theorem xm_fo30 {post : Int32 → Prop} {s e k m : Nat} (G : tp_G c pr so ta rs sg le gr bd ur) (hs : s < 1024) (he : e < 12) (hk : k < 2)
    (h : wX_follow_30 post (nI e) (nI c) n (tp_I pr) (tp_I so) (tp_I ta) (tp_I rs) (tp_I sg) (tp_I le) (tp_I gr) (tp_I bd) (tp_I ur) fd ft us m (nI (if (if k = 0 then rs e % 2 else rs e / 2) = 1 then tp_wc s k 0 else s)) (nI (k + 1))) : wX_follow_30 post (nI e) (nI c) n (tp_I pr) (tp_I so) (tp_I ta) (tp_I rs) (tp_I sg) (tp_I le) (tp_I gr) (tp_I bd) (tp_I ur) fd ft us (m + 1) (nI s) (nI k) := by
  have r4 := G.2.2.2.2.1 e
  have b : (nI (rs e) >>> (nI k &&& 31)) &&& 1 = nI (if k = 0 then rs e % 2 else rs e / 2) := by
    match k, hk with
    | 0, _ => exact (bx_rs _ r4).1
    | 1, _ => exact (bx_rs _ r4).2
  refine pk_le 2 k (fun z => by omega) (fun _ => ⟨vp_in_nI he (by omega), ?_⟩)
  rw [nI_clamp (show e < 2 ^ 31 by omega)]
  have q : (if k = 0 then rs e % 2 else rs e / 2) < 2 := by split <;> omega
  refine pk_eq (if k = 0 then rs e % 2 else rs e / 2) 1 (fun z => ?_) (fun z => ?_) b
  · rw [if_pos z] at h
    exact xm_withClock (v := 0) hs hk (by omega) (nm_r (nI_1 k) h)
  · rw [if_neg z] at h
    exact nm_r (nI_1 k) h
theorem xm_follow {post : Int32 → Prop} {s e : Nat} (G : tp_G c pr so ta rs sg le gr bd ur) (hs : s < 1024) (he : e < 12) (h : post (nI (tp_fo pr ta rs e s))) : wpX_follow post (xs_S c pr so ta rs sg le gr bd ur n fd ft us) (nI s) (nI e) := by
  have gp := G.2.1 e
  have gt := G.2.2.2.1 e
  unfold wpX_follow
  dsimp only
  rw [nI_clamp (show e < 2 ^ 31 by omega)]
  refine ⟨vp_in_nI he (by omega), nm_e ⟨vp_in_nI he (by omega), nm_r (bx_lo hs gp gt) ⟨0 + 1 + 1 + 1, ?_⟩⟩⟩
  refine xm_fo30 (k := 0) G (tp_lo_lt gt) he (by omega) ?_
  refine xm_fo30 (k := 1) G ?_ he (by omega) ?_
  · exact bx_ite (tp_wc_lt (by omega)) (tp_lo_lt gt)
  · refine br_t (by decide) ?_
    rw [tp_fo_x gt] at h
    exact h
end
end
section
/-! the reference's small methods, each with a general post -/
section
variable (c : Nat) (pr so ta rs sg le gr bd ur : Nat → Nat)
abbrev ys_S (n : Int32) (fd ft us : Nat → Int32) : SY := (nI c, n, tp_I pr, tp_I so, tp_I ta, tp_I rs, tp_I sg, tp_I le, tp_I gr, tp_I bd, tp_I ur, ft, fd, us)
end
section
variable {c : Nat} {pr so ta rs sg le gr bd ur : Nat → Nat}
variable {n : Int32} {fd ft us : Nat → Int32}
theorem ym_d8 {q : Nat} (hq : q < 1024) : (nI q / 8) - (nI q / 8) / 8 * 8 = nI (q / 8 % 8) := by
  rw [show (8 : Int32) = nI 8 from rfl, pk_div (by omega) (by omega) (by omega), pk_rem (by omega) (by omega) (by omega)]
theorem ym_r8 {q : Nat} (hq : q < 1024) : nI q - nI q / 8 * 8 = nI (q % 8) := by
  rw [show (8 : Int32) = nI 8 from rfl, pk_rem (by omega) (by omega) (by omega)]
theorem ym_value {post : Int32 → Prop} {q k : Nat} (hq : q < 1024) (hk : k < 2) (h : post (nI (tp_ck (tp_ph q) k))) : wpY_value post (ys_S c pr so ta rs sg le gr bd ur n fd ft us) (nI q) (nI k) := by
  obtain ⟨_, _, p3, p4⟩ := tp_ph_p q
  unfold tp_ck at h
  refine pk_eq k 0 (fun z => ?_) (fun z => ?_)
  · rw [if_pos z, p3] at h
    refine ⟨by decide, by decide, ?_⟩
    rw [ym_d8 hq]; exact h
  · rw [if_neg z, p4] at h
    refine ⟨by decide, ?_⟩
    rw [ym_r8 hq]; exact h
theorem ym_placeOf {post : Int32 → Prop} {q p : Nat} (hq : q < 1024) (hp : p < 2) (h : post (nI (4 * p + tp_pl (tp_ph q) p))) : wpY_placeOf post (ys_S c pr so ta rs sg le gr bd ur n fd ft us) (nI q) (nI p) := by
  obtain ⟨p1, p2, _, _⟩ := tp_ph_p q
  unfold tp_pl at h
  refine pk_eq p 0 (fun z => ?_) (fun z => ?_)
  · rw [if_pos z, p1] at h
    refine ⟨by decide, by decide, ?_⟩
    rw [show (64 : Int32) = nI 64 from rfl, show (4 : Int32) = nI 4 from rfl, pk_div (by omega) (by omega) (by omega), pk_rem (by omega) (by omega) (by omega)]
    have e : 4 * p + q / 64 % 4 = q / 64 % 4 := by omega
    rw [e] at h
    exact h
  · rw [if_neg z, p2] at h
    refine ⟨by decide, ?_⟩
    rw [show (256 : Int32) = nI 256 from rfl, show (4 : Int32) = nI 4 from rfl, pk_div (by omega) (by omega) (by omega), nI_add]
    have e : 4 * p + q / 256 % 4 = 4 + q / 256 := by omega
    rw [e] at h
    exact h
theorem ym_within {post : Int32 → Prop} {l x y : Nat} (G : tp_G c pr so ta rs sg le gr bd ur) (hl : l < 8) (hx : x < 8) (hy : y < 8) (h1 : x ≤ bd (2 * l) ∧ y ≤ bd (2 * l + 1) → post 1) (h0 : ¬ (x ≤ bd (2 * l) ∧ y ≤ bd (2 * l + 1)) → post 0) : wpY_within post (ys_S c pr so ta rs sg le gr bd ur n fd ft us) (nI l) (nI x) (nI y) := by
  obtain ⟨_, _, _, _, _, _, _, _, gb, _⟩ := G
  have b1 := gb (2 * l)
  have b2 := gb (2 * l + 1)
  unfold wpY_within
  dsimp only
  rw [show (2 : Int32) * nI l = nI (2 * l) from by rw [show (2 : Int32) = nI 2 from rfl, pk_mul], nI_1, nI_clamp (by omega), nI_clamp (by omega)]
  exact ⟨vp_in_nI (by omega) (by omega), pk_lt (bd (2 * l)) x (fun z => h0 (by omega)) (fun z => ⟨vp_in_nI (by omega) (by omega), pk_lt (bd (2 * l + 1)) y (fun w => h0 (by omega)) (fun w => h1 ⟨z, w⟩)⟩)⟩
theorem ym_inBounds {post : Int32 → Prop} {q : Nat} (G : tp_G c pr so ta rs sg le gr bd ur) (hq : q < 1024) (h1 : tp_kb bd (tp_ph q) → post 1) (h0 : ¬ tp_kb bd (tp_ph q) → post 0) : wpY_inBounds post (ys_S c pr so ta rs sg le gr bd ur n fd ft us) (nI q) := by
  have c0 := tp_ck_lt (tp_ph q) 0
  have c1 := tp_ck_lt (tp_ph q) 1
  have l0 := tp_pl_lt (tp_ph q) 0
  have l1 := tp_pl_lt (tp_ph q) 1
  have e0 : 4 * 0 + tp_pl (tp_ph q) 0 = tp_pl (tp_ph q) 0 := by omega
  have e1 : 4 * 1 + tp_pl (tp_ph q) 1 = 4 + tp_pl (tp_ph q) 1 := by omega
  unfold wpY_inBounds
  dsimp only
  refine ym_value (k := 0) hq (by omega) ?_
  refine ym_value (k := 1) hq (by omega) ?_
  refine ym_placeOf (p := 0) hq (by omega) ?_
  refine ym_placeOf (p := 1) hq (by omega) ?_
  rw [e0, e1]
  refine ym_within G (by omega) c0 c1 (fun a => br_f (by decide) ?_) (fun a => br_t rfl (h0 (fun o => a o.1)))
  exact ym_within G (by omega) c0 c1 (fun b => br_f (by decide) (h1 ⟨a, b⟩)) (fun b => br_t rfl (h0 (fun o => b o.2)))
theorem ym_op36 {post : Int32 → Prop} {q e k m : Nat} (G : tp_G c pr so ta rs sg le gr bd ur) (hq : q < 1024) (he : e < 12) (hk : k < 2)
    (ok : le (2 * e + k) ≤ tp_ck (tp_ph q) k ∧ tp_ck (tp_ph q) k ≤ gr (2 * e + k) → wY_open_36 post (nI e) (nI q) (nI c) n (tp_I pr) (tp_I so) (tp_I ta) (tp_I rs) (tp_I sg) (tp_I le) (tp_I gr) (tp_I bd) (tp_I ur) ft fd us m (nI (k + 1)))
    (bad : ¬ (le (2 * e + k) ≤ tp_ck (tp_ph q) k ∧ tp_ck (tp_ph q) k ≤ gr (2 * e + k)) → post 0) : wY_open_36 post (nI e) (nI q) (nI c) n (tp_I pr) (tp_I so) (tp_I ta) (tp_I rs) (tp_I sg) (tp_I le) (tp_I gr) (tp_I bd) (tp_I ur) ft fd us (m + 1) (nI k) := by
  obtain ⟨_, _, _, _, _, _, gl, gg, _, _⟩ := G
  have c8 := tp_ck_lt (tp_ph q) k
  have l7 := gl (2 * e + k)
  have g8 := gg (2 * e + k)
  refine pk_le 2 k (fun z => by omega) (fun _ => ?_)
  refine ym_value hq hk ?_
  rw [bx_2, nI_clamp (by omega)]
  refine ⟨vp_in_nI (by omega) (by omega), nm_e ⟨vp_in_nI (by omega) (by omega), pk_lt (tp_ck (tp_ph q) k) (le (2 * e + k)) (fun z => bad (by omega)) (fun z => pk_le 7 (gr (2 * e + k)) (fun w => ?_) (fun w => pk_le (tp_ck (tp_ph q) k) (gr (2 * e + k)) (fun v => ?_) (fun v => bad (by omega))))⟩⟩
  · exact nm_r (nI_1 k) (ok ⟨z, by omega⟩)
  · exact nm_r (nI_1 k) (ok ⟨z, v⟩)
theorem ym_open {post : Int32 → Prop} {q e : Nat} (G : tp_G c pr so ta rs sg le gr bd ur) (hq : q < 1024) (he : e < 12) (h1 : tp_op pr so le gr e (tp_ph q) → post 1) (h0 : ¬ tp_op pr so le gr e (tp_ph q) → post 0) : wpY_open post (ys_S c pr so ta rs sg le gr bd ur n fd ft us) (nI e) (nI q) := by
  have gp := G.2.1 e
  have gs := G.2.2.1 e
  have hl := tp_pl_lt (tp_ph q) (pr e)
  unfold wpY_open
  dsimp only
  rw [nI_clamp (by omega)]
  refine ⟨vp_in_nI he (by omega), ym_placeOf hq gp ⟨vp_in_nI he (by omega), vp_in_nI he (by omega), pk_eq (4 * pr e + tp_pl (tp_ph q) (pr e)) (4 * pr e + so e) (fun z => ⟨0 + 1 + 1 + 1, ?_⟩) (fun z => h0 (fun o => z (by rw [o.1]))) rfl (bx_4 (pr e) (so e))⟩⟩
  refine ym_op36 (k := 0) G hq he (by omega) (fun a => ?_) (fun a => h0 (fun o => a o.2.1))
  refine ym_op36 (k := 1) G hq he (by omega) (fun b => ?_) (fun a => h0 (fun o => a o.2.2))
  exact br_t (by decide) (h1 ⟨by omega, a, b⟩)
theorem ym_mo41 {post : Int32 → Prop} {q x : Nat} (hq : q < 1024) (hx : x < 16) (h : post (nI (64 * x + q % 64))) : wY_moved_41 post (nI q) (nI x) (nI c) n (tp_I pr) (tp_I so) (tp_I ta) (tp_I rs) (tp_I sg) (tp_I le) (tp_I gr) (tp_I bd) (tp_I ur) ft fd us := by
  refine ⟨by decide, ?_⟩
  rw [show (64 : Int32) = nI 64 from rfl, pk_rem (by omega) (by omega) (by omega), pk_mul, nI_add]
  exact h
theorem ym_moved {post : Int32 → Prop} {q e : Nat} (G : tp_G c pr so ta rs sg le gr bd ur) (hq : q < 1024) (he : e < 12) (h : post (nI (ty_mo pr ta e q))) : wpY_moved post (ys_S c pr so ta rs sg le gr bd ur n fd ft us) (nI q) (nI e) := by
  have gp := G.2.1 e
  have gt := G.2.2.2.1 e
  unfold wpY_moved
  dsimp only
  rw [nI_clamp (by omega)]
  unfold ty_mo at h
  refine ⟨by decide, nm_r (show nI q / 64 = nI (q / 64) from by rw [show (64 : Int32) = nI 64 from rfl, pk_div (by omega) (by omega) (by omega)]) ⟨vp_in_nI he (by omega), pk_eq (pr e) 0 (fun z => ⟨by decide, vp_in_nI he (by omega), ?_⟩) (fun z => ⟨by decide, vp_in_nI he (by omega), ?_⟩)⟩⟩
  · rw [if_pos z] at h
    have e1 : (nI (q / 64) / 4) * 4 + tp_I ta e = nI (q / 64 / 4 * 4 + ta e) := by
      show (nI (q / 64) / 4) * 4 + nI (ta e) = _
      rw [show (4 : Int32) = nI 4 from rfl, pk_div (by omega) (by omega) (by omega), pk_mul, nI_add]
    rw [e1]
    exact ym_mo41 hq (by omega) h
  · rw [if_neg z] at h
    have e1 : (nI (q / 64) - nI (q / 64) / 4 * 4) + 4 * tp_I ta e = nI (q / 64 % 4 + 4 * ta e) := by
      show (nI (q / 64) - nI (q / 64) / 4 * 4) + 4 * nI (ta e) = _
      rw [show (4 : Int32) = nI 4 from rfl, pk_rem (by omega) (by omega) (by omega), pk_mul, nI_add]
    rw [e1]
    exact ym_mo41 hq (by omega) h
theorem ym_cl35 {post : Int32 → Prop} {q x y : Nat} (hq : q < 1024) (hx : x < 8) (hy : y < 8) (h : post (nI (q / 64 * 64 + 8 * x + y))) : wY_cleared_35 post (nI q) (nI x) (nI y) (nI c) n (tp_I pr) (tp_I so) (tp_I ta) (tp_I rs) (tp_I sg) (tp_I le) (tp_I gr) (tp_I bd) (tp_I ur) ft fd us := by
  refine ⟨by decide, ?_⟩
  rw [show (64 : Int32) = nI 64 from rfl, show (8 : Int32) = nI 8 from rfl, pk_div (by omega) (by omega) (by omega), pk_mul, pk_mul, nI_add, nI_add]
  exact h
theorem ym_cl17 {post : Int32 → Prop} {q r x : Nat} (hq : q < 1024) (hr : r < 4) (hx : x < 8) (h : post (nI (q / 64 * 64 + 8 * x + (if r / 2 = 1 then 0 else q % 8)))) : wY_cleared_17 post (nI q) (nI r) (nI x) (nI c) n (tp_I pr) (tp_I so) (tp_I ta) (tp_I rs) (tp_I sg) (tp_I le) (tp_I gr) (tp_I bd) (tp_I ur) ft fd us := by
  refine ⟨by decide, pk_eq (r / 2) 1 (fun z => ?_) (fun z => ?_) (by rw [show (2 : Int32) = nI 2 from rfl, pk_div (by omega) (by omega) (by omega)])⟩
  · rw [if_pos z] at h
    exact ym_cl35 (y := 0) hq hx (by omega) h
  · rw [if_neg z] at h
    refine ym_value (k := 1) hq (by omega) ?_
    have e : tp_ck (tp_ph q) 1 = q % 8 := (tp_ph_p q).2.2.2
    rw [e]
    exact ym_cl35 hq hx (by omega) h
theorem ym_cleared {post : Int32 → Prop} {q r : Nat} (hq : q < 1024) (hr : r < 4) (h : post (nI (ty_cl q r))) : wpY_cleared post (ys_S c pr so ta rs sg le gr bd ur n fd ft us) (nI q) (nI r) := by
  unfold ty_cl at h
  refine ⟨by decide, pk_eq (r % 2) 1 (fun z => ?_) (fun z => ?_) (by rw [show (2 : Int32) = nI 2 from rfl, pk_rem (by omega) (by omega) (by omega)])⟩
  · rw [if_pos z] at h
    exact ym_cl17 (x := 0) hq hr (by omega) h
  · rw [if_neg z] at h
    refine ym_value (k := 0) hq (by omega) ?_
    have e : tp_ck (tp_ph q) 0 = q / 8 % 8 := (tp_ph_p q).2.2.1
    rw [e]
    exact ym_cl17 hq hr (by omega) h
def ty_pa (pr sg : Nat → Nat) (e f : Nat) : Prop := pr e = 0 ∧ pr f = 1 ∧ sg e ≠ 0 ∧ sg f ≠ 0 ∧ (sg e = sg f + 2 ∨ sg f = sg e + 2)
theorem ym_partners {post : Int32 → Prop} {e f : Nat} (G : tp_G c pr so ta rs sg le gr bd ur) (he : e < 12) (hf : f < 12) (h1 : ty_pa pr sg e f → post 1) (h0 : ¬ ty_pa pr sg e f → post 0) : wpY_partners post (ys_S c pr so ta rs sg le gr bd ur n fd ft us) (nI e) (nI f) := by
  obtain ⟨_, gp, _, _, _, gs, _, _, _, _⟩ := G
  have pe := gp e
  have pf := gp f
  have se := gs e
  have sf := gs f
  have ve : vp_in (nI e) 12 := vp_in_nI he (by omega)
  have vf : vp_in (nI f) 12 := vp_in_nI hf (by omega)
  unfold wpY_partners
  dsimp only
  rw [nI_clamp (show e < 2 ^ 31 by omega), nI_clamp (show f < 2 ^ 31 by omega)]
  refine ⟨ve, pk_eq (pr e) 0 (fun a => ⟨vf, pk_eq (pr f) 1 (fun b => ⟨vf, ve, nm_e ⟨ve, pk_le (sg e) 0 (fun w => h0 (fun o => ?_)) (fun x => ⟨vf, pk_le (sg f) 0 (fun w => h0 (fun o => ?_)) (fun y => br_c (fun w => h1 ⟨a, b, by omega, by omega, ?_⟩) (fun w => br_c (fun v => h1 ⟨a, b, by omega, by omega, ?_⟩) (fun v => h0 (fun o => ?_))))⟩)⟩⟩) (fun w => h0 (fun o => w o.2.1))⟩) (fun w => h0 (fun o => w o.1))⟩
  · exact o.2.2.1 (by omega)
  · exact o.2.2.2.1 (by omega)
  · exact Or.inr ((bx_sg _ sf _ se).1.mp w)
  · exact Or.inl ((bx_sg _ sf _ se).2.mp v)
  · rcases o.2.2.2.2 with q | q
    · exact v ((bx_sg _ sf _ se).2.mpr q)
    · exact w ((bx_sg _ sf _ se).1.mpr q)
end
end
section
/-! the arrays of the search against F, T, U: k codes a time -/
def rc_A (k : Nat → Int32) (n : Nat) (F T U : Nat → Nat) (fc : Int32) (fd ft us : Nat → Int32) : Prop :=
  fc = nI n ∧ (∀ i, i < n → fd i = nI (F i)) ∧ (∀ s, s < 1024 → ft s = k (T s)) ∧ (∀ e, e < 12 → us e = k (U e))
def rc_kx (v : Nat) : Int32 := if v = 21 then -4 else nI v
def rc_ky (v : Nat) : Int32 := nI v
theorem rc_kx_v {v : Nat} (h : v ≠ 21) : rc_kx v = nI v := if_neg h
theorem rc_kx_t : ∀ v, v < 21 → ¬ rc_kx v = -4 := by decide +kernel
theorem rc_A_note {k : Nat → Int32} {n : Nat} {F T U : Nat → Nat} {fc : Int32} {fd ft us : Nat → Int32} {s h : Nat} (A : rc_A k n F T U fc fd ft us) (hk : k h = nI h) : rc_A k (n + 1) (rc_up F n s) (rc_up T s h) U (nI (n + 1)) (upd fd n (nI s)) (upd ft s (nI h)) us := by
  obtain ⟨a1, a2, a3, a4⟩ := A
  refine ⟨rfl, fun i hi => ?_, fun q hq => ?_, a4⟩
  · by_cases z : i = n
    · rw [z, pk_us, rc_us]
    · rw [pk_un z, rc_un z]; exact a2 i (by omega)
  · by_cases z : q = s
    · rw [z, pk_us, rc_us, hk]
    · rw [pk_un z, rc_un z]; exact a3 q hq
theorem rc_A_use {k : Nat → Int32} {n : Nat} {F T U : Nat → Nat} {fc : Int32} {fd ft us : Nat → Int32} {e h : Nat} (A : rc_A k n F T U fc fd ft us) (hk : k h = nI h) : rc_A k n F T (rc_up U e h) fc fd ft (upd us e (nI h)) := by
  obtain ⟨a1, a2, a3, a4⟩ := A
  refine ⟨a1, a2, a3, fun q hq => ?_⟩
  by_cases z : q = e
  · rw [z, pk_us, rc_us, hk]
  · rw [pk_un z, rc_un z]; exact a4 q hq
/-- from here on, whatever has been found: the post -/
def rc_go {S : Type} (mv : Nat → Nat → Nat → Nat → Prop) (wt : Nat → Nat → Prop) (k : Nat → Int32) (mk : Int32 → (Nat → Int32) → (Nat → Int32) → (Nat → Int32) → S) (post : S → Prop) (lo h n : Nat) (F T U : Nat → Nat) (D : (Nat → Nat) → (Nat → Nat) → Prop) : Prop :=
  ∀ (n' : Nat) (F' T' U' : Nat → Nat) (fc : Int32) (fd ft us : Nat → Int32), rc_A k n' F' T' U' fc fd ft us → rc_Ok mv wt lo h n' F' T' U' → rc_Le n F T U n' F' T' U' → D T' U' → post (mk fc fd ft us)
def rc_dn (mv : Nat → Nat → Nat → Nat → Prop) (s h e f : Nat) (T U : Nat → Nat) : Prop := ∀ s', mv e f s s' → T s' ≤ h ∧ U e ≤ h ∧ U f ≤ h
theorem rc_dn_le {mv : Nat → Nat → Nat → Nat → Prop} {s h e f n n' : Nat} {F T U F' T' U' : Nat → Nat} (hh : h ≤ 20) (L : rc_Le n F T U n' F' T' U') (d : rc_dn mv s h e f T U) : rc_dn mv s h e f T' U' := by
  intro s' m
  obtain ⟨d1, d2, d3⟩ := d s' m
  rw [L.2.2.1 s' (by omega), L.2.2.2 e (by omega), L.2.2.2 f (by omega)]
  exact ⟨d1, d2, d3⟩
end
section
/-! the component's search -/
section
variable {c : Nat} {pr so ta rs sg le gr bd ur : Nat → Nat}
theorem xs_note {post : SX → Prop} {lo h n s : Nat} {F T U : Nat → Nat} {fc : Int32} {fd ft us : Nat → Int32} (A : rc_A rc_kx n F T U fc fd ft us) (O : rc_Ok (tp_mv c pr so ta rs sg le gr bd) (tp_wt bd ur) lo h n F T U) (hs : s < 1024) (R : rc_R (tp_mv c pr so ta rs sg le gr bd) (tp_wt bd ur) s h)
    (p : rc_go (tp_mv c pr so ta rs sg le gr bd) (tp_wt bd ur) rc_kx (xs_S c pr so ta rs sg le gr bd ur) post lo h n F T U (fun T' _ => T' s ≤ h)) : wpX_note post (xs_S c pr so ta rs sg le gr bd ur fc fd ft us) (nI s) (nI h) := by
  have A0 := A
  obtain ⟨rfl, a2, a3, a4⟩ := A
  have n1 := rc_Ok_n _ _ O
  have hh : h ≤ 20 := O.2.1
  unfold wpX_note
  dsimp only
  rw [nI_clamp (show s < 2 ^ 31 by omega), nI_clamp (show n < 2 ^ 31 by omega), a3 s hs]
  refine ⟨vp_in_nI hs (by omega), ?_⟩
  by_cases z : T s = 21
  · obtain ⟨hn, O', L⟩ := rc_note _ _ O hs z R
    refine br_t (by rw [z]; rfl) (pk_le 1024 n (fun w => absurd w (by omega)) (fun _ => ⟨vp_in_nI hs (by omega), nm_e ⟨vp_in_nI hn (by omega), nm_e (nm_r (nI_1 n) ?_)⟩⟩))
    exact p _ _ _ _ _ _ _ _ (rc_A_note A0 (rc_kx_v (by omega))) O' L (Nat.le_of_eq rc_us)
  · have t := rc_Ok_T _ _ O hs z
    exact br_f (rc_kx_t _ (by omega)) (p _ _ _ _ _ _ _ _ A0 O rc_Le_rf t)
theorem xs_noteUse {post : SX → Prop} {lo h n e : Nat} {F T U : Nat → Nat} {fc : Int32} {fd ft us : Nat → Int32} (A : rc_A rc_kx n F T U fc fd ft us) (O : rc_Ok (tp_mv c pr so ta rs sg le gr bd) (tp_wt bd ur) lo h n F T U) (he : e < 12) (V : rc_V (tp_mv c pr so ta rs sg le gr bd) (tp_wt bd ur) e h)
    (p : rc_go (tp_mv c pr so ta rs sg le gr bd) (tp_wt bd ur) rc_kx (xs_S c pr so ta rs sg le gr bd ur) post lo h n F T U (fun _ U' => U' e ≤ h)) : wpX_noteUse post (xs_S c pr so ta rs sg le gr bd ur fc fd ft us) (nI e) (nI h) := by
  have hh : h ≤ 20 := O.2.1
  unfold wpX_noteUse
  dsimp only
  rw [nI_clamp (show e < 2 ^ 31 by omega), A.2.2.2 e he]
  refine ⟨vp_in_nI he (by omega), ?_⟩
  by_cases z : U e = 21
  · obtain ⟨O', L⟩ := rc_use _ _ O z V
    exact br_t (by rw [z]; rfl) ⟨vp_in_nI he (by omega), nm_e (p _ _ _ _ _ _ _ _ (rc_A_use A (rc_kx_v (by omega))) O' L (Nat.le_of_eq rc_us))⟩
  · have t := rc_Ok_U _ _ O z
    exact br_f (rc_kx_t _ (by omega)) (p _ _ _ _ _ _ _ _ A O rc_Le_rf t)
theorem xs_moveBy {post : SX → Prop} {lo h n s e f : Nat} {F T U : Nat → Nat} {fc : Int32} {fd ft us : Nat → Int32} (G : tp_G c pr so ta rs sg le gr bd ur) (A : rc_A rc_kx n F T U fc fd ft us) (O : rc_Ok (tp_mv c pr so ta rs sg le gr bd) (tp_wt bd ur) lo h n F T U) (hs : s < 1024) (he : e < c) (hf : f < c) (R : rc_R (tp_mv c pr so ta rs sg le gr bd) (tp_wt bd ur) s h) (im : tp_im pr sg e f) (oe : tp_op pr so le gr e s) (of : tp_op pr so le gr f s)
    (p : rc_go (tp_mv c pr so ta rs sg le gr bd) (tp_wt bd ur) rc_kx (xs_S c pr so ta rs sg le gr bd ur) post lo h n F T U (rc_dn (tp_mv c pr so ta rs sg le gr bd) s h e f)) : wpX_moveBy post (xs_S c pr so ta rs sg le gr bd ur fc fd ft us) (nI s) (nI e) (nI f) (nI h) := by
  have c12 := G.1
  have gt := G.2.2.2.1
  have l1 := tp_fo_lt pr ta rs (s := s) (gt e)
  have l2 := tp_fo_lt pr ta rs (s := tp_fo pr ta rs e s) (gt f)
  unfold wpX_moveBy
  dsimp only
  refine xm_follow G hs (by omega) ?_
  refine xm_follow G l1 (by omega) ?_
  refine xm_keepsBounds G l2 (fun kb => br_f (by decide) ?_) (fun kb => br_t rfl (p _ _ _ _ _ _ _ _ A O rc_Le_rf ?_))
  · have m : (tp_mv c pr so ta rs sg le gr bd) e f s (tp_fo pr ta rs f (tp_fo pr ta rs e s)) := ⟨he, hf, im, oe, of, rfl, kb⟩
    refine xs_noteUse A O (by omega) ⟨f, s, _, R, Or.inl m⟩ ?_
    intro n1 F1 T1 U1 fc1 fd1 ft1 us1 A1 O1 L1 d1
    refine xs_noteUse A1 O1 (by omega) ⟨e, s, _, R, Or.inr m⟩ ?_
    intro n2 F2 T2 U2 fc2 fd2 ft2 us2 A2 O2 L2 d2
    refine xs_note A2 O2 l2 (rc_Rm _ _ R m) ?_
    intro n3 F3 T3 U3 fc3 fd3 ft3 us3 A3 O3 L3 d3
    refine p _ _ _ _ _ _ _ _ A3 O3 (rc_Le_tr L1 (rc_Le_tr L2 L3)) ?_
    have hh : h ≤ 20 := O.2.1
    intro s' m'
    obtain ⟨_, _, _, _, _, m6, _⟩ := m'
    rw [m6]
    refine ⟨d3, ?_, ?_⟩
    · rw [(rc_Le_tr L2 L3).2.2.2 e (by have := d1; omega)]; exact d1
    · rw [L3.2.2.2 f (by have := d2; omega)]; exact d2
  · intro s' m'
    obtain ⟨_, _, _, _, _, m6, m7⟩ := m'
    rw [m6] at m7
    exact absurd m7 kb
theorem xs_mf13 {post : SX → Prop} {J : Int32 → Int32 → Int32 → (Nat → Int32) → (Nat → Int32) → (Nat → Int32) → (Nat → Int32) → (Nat → Int32) → (Nat → Int32) → (Nat → Int32) → (Nat → Int32) → (Nat → Int32) → (Nat → Int32) → (Nat → Int32) → (Nat → Int32) → Prop} {lo h s e : Nat} (G : tp_G c pr so ta rs sg le gr bd ur) (hs : s < 1024) (he : e < c) (R : rc_R (tp_mv c pr so ta rs sg le gr bd) (tp_wt bd ur) s h) :
    ∀ (m f n : Nat) (F T U : Nat → Nat) (fc : Int32) (fd ft us : Nat → Int32), c - f < m → f ≤ c → rc_A rc_kx n F T U fc fd ft us → rc_Ok (tp_mv c pr so ta rs sg le gr bd) (tp_wt bd ur) lo h n F T U → (∀ f', f' < f → rc_dn (tp_mv c pr so ta rs sg le gr bd) s h e f' T U) →
    (∀ (n' : Nat) (F' T' U' : Nat → Nat) (fc : Int32) (fd ft us : Nat → Int32), rc_A rc_kx n' F' T' U' fc fd ft us → rc_Ok (tp_mv c pr so ta rs sg le gr bd) (tp_wt bd ur) lo h n' F' T' U' → rc_Le n F T U n' F' T' U' → (∀ f', f' < c → rc_dn (tp_mv c pr so ta rs sg le gr bd) s h e f' T' U') → J (nI (e + 1)) (nI c) fc (tp_I pr) (tp_I so) (tp_I ta) (tp_I rs) (tp_I sg) (tp_I le) (tp_I gr) (tp_I bd) (tp_I ur) fd ft us) →
    wX_moveFrom_13 post J (nI s) (nI h) (nI e) m (nI f) (nI c) fc (tp_I pr) (tp_I so) (tp_I ta) (tp_I rs) (tp_I sg) (tp_I le) (tp_I gr) (tp_I bd) (tp_I ur) fd ft us := by
  have c12 := G.1
  intro m
  induction m with
  | zero => intro f n F T U fc fd ft us h1; omega
  | succ m ih =>
    intro f n F T U fc fd ft us h1 h2 A O dn p
    have hh : h ≤ 20 := O.2.1
    refine pk_le c f (fun z => nm_r (nI_1 e) (p n F T U fc fd ft us A O rc_Le_rf (fun f' hf' => dn f' (by omega)))) (fun z => ?_)
    have next : ∀ (n' : Nat) (F' T' U' : Nat → Nat) (fc : Int32) (fd ft us : Nat → Int32), rc_A rc_kx n' F' T' U' fc fd ft us → rc_Ok (tp_mv c pr so ta rs sg le gr bd) (tp_wt bd ur) lo h n' F' T' U' → rc_Le n F T U n' F' T' U' → rc_dn (tp_mv c pr so ta rs sg le gr bd) s h e f T' U' → wX_moveFrom_13 post J (nI s) (nI h) (nI e) m (nI (f + 1)) (nI c) fc (tp_I pr) (tp_I so) (tp_I ta) (tp_I rs) (tp_I sg) (tp_I le) (tp_I gr) (tp_I bd) (tp_I ur) fd ft us := by
      intro n' F' T' U' fc fd ft us A' O' L' d'
      refine ih (f + 1) n' F' T' U' fc fd ft us (by omega) (by omega) A' O' (fun f' hf' => ?_) (fun n2 F2 T2 U2 fc fd ft us A2 O2 L2 d2 => p n2 F2 T2 U2 fc fd ft us A2 O2 (rc_Le_tr L' L2) d2)
      by_cases w : f' = f
      · rw [w]; exact d'
      · exact rc_dn_le hh L' (dn f' (by omega))
    refine xm_isMove G (by omega) (by omega) (fun im => br_f (by decide) ?_) (fun im => br_t rfl (nm_r (nI_1 f) (next n F T U fc fd ft us A O rc_Le_rf (fun s' m' => absurd m'.2.2.1 im))))
    refine xm_allows G hs (by omega) (fun oe => br_f (by decide) ?_) (fun oe => br_t rfl (nm_r (nI_1 f) (next n F T U fc fd ft us A O rc_Le_rf (fun s' m' => absurd m'.2.2.2.1 oe))))
    refine xm_allows G hs (by omega) (fun of => br_f (by decide) ?_) (fun of => br_t rfl (nm_r (nI_1 f) (next n F T U fc fd ft us A O rc_Le_rf (fun s' m' => absurd m'.2.2.2.2.1 of))))
    refine xs_moveBy G A O hs he z R im oe of ?_
    intro n' F' T' U' fc fd ft us A' O' L' d'
    exact nm_r (nI_1 f) (next n' F' T' U' fc fd ft us A' O' L' d')
theorem xs_mf2 {post : SX → Prop} {lo h s : Nat} (G : tp_G c pr so ta rs sg le gr bd ur) (hs : s < 1024) (R : rc_R (tp_mv c pr so ta rs sg le gr bd) (tp_wt bd ur) s h) :
    ∀ (m e n : Nat) (F T U : Nat → Nat) (fc : Int32) (fd ft us : Nat → Int32), c - e < m → e ≤ c → rc_A rc_kx n F T U fc fd ft us → rc_Ok (tp_mv c pr so ta rs sg le gr bd) (tp_wt bd ur) lo h n F T U → (∀ e', e' < e → ∀ f', f' < c → rc_dn (tp_mv c pr so ta rs sg le gr bd) s h e' f' T U) →
    rc_go (tp_mv c pr so ta rs sg le gr bd) (tp_wt bd ur) rc_kx (xs_S c pr so ta rs sg le gr bd ur) post lo h n F T U (fun T' U' => ∀ e', e' < c → ∀ f', f' < c → rc_dn (tp_mv c pr so ta rs sg le gr bd) s h e' f' T' U') →
    wX_moveFrom_2 post (nI s) (nI h) m (nI e) (nI c) fc (tp_I pr) (tp_I so) (tp_I ta) (tp_I rs) (tp_I sg) (tp_I le) (tp_I gr) (tp_I bd) (tp_I ur) fd ft us := by
  have c12 := G.1
  intro m
  induction m with
  | zero => intro e n F T U fc fd ft us h1; omega
  | succ m ih =>
    intro e n F T U fc fd ft us h1 h2 A O dn p
    have hh : h ≤ 20 := O.2.1
    refine pk_le c e (fun z => p n F T U fc fd ft us A O rc_Le_rf (fun e' he' => dn e' (by omega))) (fun z => ⟨c + 1, ?_⟩)
    refine xs_mf13 G hs z R (c + 1) 0 n F T U fc fd ft us (by omega) (by omega) A O (fun f' hf' => absurd hf' (by omega)) ?_
    intro n' F' T' U' fc fd ft us A' O' L' d'
    refine ih (e + 1) n' F' T' U' fc fd ft us (by omega) (by omega) A' O' (fun e' he' f' hf' => ?_) (fun n2 F2 T2 U2 fc fd ft us A2 O2 L2 d2 => p n2 F2 T2 U2 fc fd ft us A2 O2 (rc_Le_tr L' L2) d2)
    by_cases w : e' = e
    · rw [w]; exact d' f' hf'
    · exact rc_dn_le hh L' (dn e' (by omega) f' hf')
theorem xs_moveFrom {post : SX → Prop} {lo h n s : Nat} {F T U : Nat → Nat} {fc : Int32} {fd ft us : Nat → Int32} (G : tp_G c pr so ta rs sg le gr bd ur) (A : rc_A rc_kx n F T U fc fd ft us) (O : rc_Ok (tp_mv c pr so ta rs sg le gr bd) (tp_wt bd ur) lo h n F T U) (hs : s < 1024) (R : rc_R (tp_mv c pr so ta rs sg le gr bd) (tp_wt bd ur) s h)
    (p : rc_go (tp_mv c pr so ta rs sg le gr bd) (tp_wt bd ur) rc_kx (xs_S c pr so ta rs sg le gr bd ur) post lo h n F T U (fun T' U' => ∀ e f, rc_dn (tp_mv c pr so ta rs sg le gr bd) s h e f T' U')) : wpX_moveFrom post (xs_S c pr so ta rs sg le gr bd ur fc fd ft us) (nI s) (nI h) := by
  refine ⟨c + 1, xs_mf2 G hs R (c + 1) 0 n F T U fc fd ft us (by omega) (by omega) A O (fun f' hf' => absurd hf' (by omega)) ?_⟩
  intro n' F' T' U' fc fd ft us A' O' L' d'
  exact p n' F' T' U' fc fd ft us A' O' L' (fun e f s' m => d' e m.1 f m.2.1 s' m)
theorem xs_wf2 {post : SX → Prop} {s h k m : Nat} {fc : Int32} {fd ft us : Nat → Int32} (G : tp_G c pr so ta rs sg le gr bd ur) (hs : s < 1024) (hk : k < 2) (ok : ur (4 * k + tp_pl s k) = 0 → wX_waitFrom_2 post (nI s) (nI h) (nI c) fc (tp_I pr) (tp_I so) (tp_I ta) (tp_I rs) (tp_I sg) (tp_I le) (tp_I gr) (tp_I bd) (tp_I ur) fd ft us m (nI (k + 1))) (bad : ¬ ur (4 * k + tp_pl s k) = 0 → post (xs_S c pr so ta rs sg le gr bd ur fc fd ft us)) :
    wX_waitFrom_2 post (nI s) (nI h) (nI c) fc (tp_I pr) (tp_I so) (tp_I ta) (tp_I rs) (tp_I sg) (tp_I le) (tp_I gr) (tp_I bd) (tp_I ur) fd ft us (m + 1) (nI k) := by
  have hl := tp_pl_lt s k
  have gu := G.2.2.2.2.2.2.2.2.2 (4 * k + tp_pl s k)
  refine pk_le 2 k (fun z => by omega) (fun _ => ?_)
  refine xm_location hs hk ?_
  rw [bx_4, nI_clamp (by omega)]
  exact ⟨vp_in_nI (by omega) (by omega), pk_eq (ur (4 * k + tp_pl s k)) 0 (fun z => nm_r (nI_1 k) (ok z)) (fun z => bad z)⟩
theorem xs_wf37 {post : SX → Prop} {s h a k m : Nat} {fc : Int32} {fd ft us : Nat → Int32} (hs : s < 1024) (ha : a < 1024) (hk : k < 2) (ok : wX_waitFrom_37 post (nI s) (nI h) (nI c) fc (tp_I pr) (tp_I so) (tp_I ta) (tp_I rs) (tp_I sg) (tp_I le) (tp_I gr) (tp_I bd) (tp_I ur) fd ft us m (nI (tp_wc a k (tp_in (tp_ck s k)))) (nI (k + 1))) :
    wX_waitFrom_37 post (nI s) (nI h) (nI c) fc (tp_I pr) (tp_I so) (tp_I ta) (tp_I rs) (tp_I sg) (tp_I le) (tp_I gr) (tp_I bd) (tp_I ur) fd ft us (m + 1) (nI a) (nI k) := by
  have hc := tp_ck_lt s k
  refine pk_le 2 k (fun z => by omega) (fun _ => ?_)
  refine xm_clock hs hk ?_
  refine pk_le 7 (tp_ck s k) (fun z => ?_) (fun z => ?_)
  · unfold tp_in at ok
    rw [if_neg (by omega)] at ok
    exact xm_withClock (v := 7) ha hk (by omega) (nm_r (nI_1 k) ok)
  · unfold tp_in at ok
    rw [if_pos (by omega)] at ok
    rw [nI_1]
    exact xm_withClock ha hk (by omega) (nm_r (nI_1 k) ok)
theorem xs_waitFrom {post : SX → Prop} {lo h n s : Nat} {F T U : Nat → Nat} {fc : Int32} {fd ft us : Nat → Int32} (G : tp_G c pr so ta rs sg le gr bd ur) (A : rc_A rc_kx n F T U fc fd ft us) (O : rc_Ok (tp_mv c pr so ta rs sg le gr bd) (tp_wt bd ur) lo (h + 1) n F T U) (hs : s < 1024) (R : rc_R (tp_mv c pr so ta rs sg le gr bd) (tp_wt bd ur) s h)
    (p : rc_go (tp_mv c pr so ta rs sg le gr bd) (tp_wt bd ur) rc_kx (xs_S c pr so ta rs sg le gr bd ur) post lo (h + 1) n F T U (fun T' _ => ∀ s', (tp_wt bd ur) s s' → T' s' ≤ h + 1)) : wpX_waitFrom post (xs_S c pr so ta rs sg le gr bd ur fc fd ft us) (nI s) (nI h) := by
  have hh : h + 1 ≤ 20 := O.2.1
  have l0 := tp_ck_lt s 0
  have e0 : 4 * 0 + tp_pl s 0 = tp_pl s 0 := by omega
  refine ⟨0 + 1 + 1 + 1, ?_⟩
  refine xs_wf2 (k := 0) G hs (by omega) (fun u0 => ?_) (fun u0 => p _ _ _ _ _ _ _ _ A O rc_Le_rf (fun s' w => ?_))
  · refine xs_wf2 (k := 1) G hs (by omega) (fun u1 => ?_) (fun u1 => p _ _ _ _ _ _ _ _ A O rc_Le_rf (fun s' w => absurd w.2.1 u1))
    refine br_t (by decide) ⟨0 + 1 + 1 + 1, ?_⟩
    refine xs_wf37 (k := 0) hs hs (by omega) ?_
    refine xs_wf37 (k := 1) hs (tp_wc_lt (tp_in_lt _)) (by omega) ?_
    have ew : tp_wc (tp_wc s 0 (tp_in (tp_ck s 0))) 1 (tp_in (tp_ck s 1)) = tp_wo s := (tp_wo_x s).symm
    rw [ew]
    refine br_t (by decide) ?_
    refine xm_keepsBounds G (tp_wo_lt s) (fun kb => br_f (by decide) ?_) (fun kb => br_t rfl (p _ _ _ _ _ _ _ _ A O rc_Le_rf ?_))
    · rw [e0] at u0
      have w : (tp_wt bd ur) s (tp_wo s) := ⟨u0, u1, rfl, kb⟩
      rw [nI_1]
      refine xs_note A O (tp_wo_lt s) (rc_Rw _ _ R (by omega) w) ?_
      intro n' F' T' U' fc fd ft us A' O' L' d'
      refine p n' F' T' U' fc fd ft us A' O' L' (fun s' w' => ?_)
      rw [w'.2.2.1]; exact d'
    · intro s' w'
      obtain ⟨_, _, w3, w4⟩ := w'
      rw [w3] at w4
      exact absurd w4 kb
  · rw [e0] at u0
    exact absurd w.1 u0
end
end
section
/-! the component's explore -/
section
variable {c : Nat} {pr so ta rs sg le gr bd ur : Nat → Nat}
theorem xe_62 {post : SX → Prop} {J : Int32 → Int32 → Int32 → Int32 → (Nat → Int32) → (Nat → Int32) → (Nat → Int32) → (Nat → Int32) → (Nat → Int32) → (Nat → Int32) → (Nat → Int32) → (Nat → Int32) → (Nat → Int32) → (Nat → Int32) → (Nat → Int32) → (Nat → Int32) → Prop} {h lo b : Nat} (G : tp_G c pr so ta rs sg le gr bd ur) (hh : h < 20) (hb : b ≤ 1024)
    (p : ∀ (n : Nat) (F T U : Nat → Nat) (fc : Int32) (fd ft us : Nat → Int32), rc_A rc_kx n F T U fc fd ft us → rc_Ok (tp_mv c pr so ta rs sg le gr bd) (tp_wt bd ur) b (h + 1) n F T U → (∀ j, j < b → rc_Dm (tp_mv c pr so ta rs sg le gr bd) F T U j ∧ rc_Dw (tp_wt bd ur) F T j) → T 0 = 0 → J (nI b) (nI (h + 1)) (nI c) fc (tp_I pr) (tp_I so) (tp_I ta) (tp_I rs) (tp_I sg) (tp_I le) (tp_I gr) (tp_I bd) (tp_I ur) fd ft us) :
    ∀ (m i n : Nat) (F T U : Nat → Nat) (fc : Int32) (fd ft us : Nat → Int32), b - i < m → lo ≤ i → i ≤ b → rc_A rc_kx n F T U fc fd ft us → rc_Ok (tp_mv c pr so ta rs sg le gr bd) (tp_wt bd ur) b (h + 1) n F T U → (∀ j, lo ≤ j → j < b → T (F j) = h) → (∀ j, j < b → rc_Dm (tp_mv c pr so ta rs sg le gr bd) F T U j) → (∀ j, j < i → rc_Dw (tp_wt bd ur) F T j) → T 0 = 0 →
    wX_explore_62 post J (nI h) (nI b) m (nI i) (nI c) fc (tp_I pr) (tp_I so) (tp_I ta) (tp_I rs) (tp_I sg) (tp_I le) (tp_I gr) (tp_I bd) (tp_I ur) fd ft us := by
  intro m
  induction m with
  | zero => intro i n F T U fc fd ft us h1; omega
  | succ m ih =>
    intro i n F T U fc fd ft us h1 h2 h3 A O eq dm dw t0
    have hbn : b ≤ n := O.2.2.1
    refine pk_le b i (fun z => nm_r (nI_1 h) (p n F T U fc fd ft us A O (fun j hj => ⟨dm j hj, dw j (by omega)⟩) t0)) (fun z => ?_)
    refine pk_le 20 h (fun w => absurd w (by omega)) (fun _ => ?_)
    have hF := (O.2.2.2.1 i (by omega)).1
    have hR := (O.2.2.2.1 i (by omega)).2.2
    rw [eq i h2 z] at hR
    rw [nI_clamp (show i < 2 ^ 31 by omega), A.2.1 i (by omega)]
    refine ⟨vp_in_nI (by omega) (by omega), xs_waitFrom G A O hF hR ?_⟩
    intro n' F' T' U' fc fd ft us A' O' L' d'
    refine nm_r (nI_1 i) (ih (i + 1) n' F' T' U' fc fd ft us (by omega) (by omega) (by omega) A' O' (fun j hj hj' => ?_) (fun j hj => rc_Dm_le _ _ O L' (by omega) (dm j hj)) (fun j hj => ?_) ?_)
    · rw [L'.2.1 j (by omega), L'.2.2.1 _ (by rw [eq j hj hj']; omega)]; exact eq j hj hj'
    · by_cases w : j = i
      · intro s' _ w'
        have e1 : F' j = F i := by rw [w]; exact L'.2.1 i (by omega)
        rw [e1] at w' ⊢
        rw [L'.2.2.1 (F i) (by rw [eq i h2 z]; omega), eq i h2 z]
        exact d' s' w'
      · exact rc_Dw_le _ _ O L' (by omega) (dw j (by omega))
    · rw [L'.2.2.1 0 (by omega)]; exact t0
theorem xe_62e {post : SX → Prop} {J : Int32 → Int32 → Int32 → Int32 → (Nat → Int32) → (Nat → Int32) → (Nat → Int32) → (Nat → Int32) → (Nat → Int32) → (Nat → Int32) → (Nat → Int32) → (Nat → Int32) → (Nat → Int32) → (Nat → Int32) → (Nat → Int32) → (Nat → Int32) → Prop} {i b m : Nat} {fc : Int32} {fd ft us : Nat → Int32}
    (p : J (nI b) (nI 21) (nI c) fc (tp_I pr) (tp_I so) (tp_I ta) (tp_I rs) (tp_I sg) (tp_I le) (tp_I gr) (tp_I bd) (tp_I ur) fd ft us) : wX_explore_62 post J (nI 20) (nI b) (m + 1) (nI i) (nI c) fc (tp_I pr) (tp_I so) (tp_I ta) (tp_I rs) (tp_I sg) (tp_I le) (tp_I gr) (tp_I bd) (tp_I ur) fd ft us :=
  br_c (fun _ => nm_r (nI_1 20) p) (fun _ => br_t (by decide) (nm_r (nI_1 20) p))
theorem xe_22 {post : SX → Prop} {J : Int32 → Int32 → Int32 → Int32 → (Nat → Int32) → (Nat → Int32) → (Nat → Int32) → (Nat → Int32) → (Nat → Int32) → (Nat → Int32) → (Nat → Int32) → (Nat → Int32) → (Nat → Int32) → (Nat → Int32) → (Nat → Int32) → (Nat → Int32) → Prop} {h lo : Nat} (G : tp_G c pr so ta rs sg le gr bd ur)
    (p : ∀ (n : Nat) (F T U : Nat → Nat) (fd ft us : Nat → Int32), rc_A rc_kx n F T U (nI n) fd ft us → rc_Ok (tp_mv c pr so ta rs sg le gr bd) (tp_wt bd ur) lo h n F T U → (∀ j, j < n → rc_Dm (tp_mv c pr so ta rs sg le gr bd) F T U j) → (∀ j, j < lo → rc_Dw (tp_wt bd ur) F T j) → T 0 = 0 → ∃ n62, wX_explore_62 post J (nI h) (nI n) n62 (nI lo) (nI c) (nI n) (tp_I pr) (tp_I so) (tp_I ta) (tp_I rs) (tp_I sg) (tp_I le) (tp_I gr) (tp_I bd) (tp_I ur) fd ft us) :
    ∀ (m i n : Nat) (F T U : Nat → Nat) (fc : Int32) (fd ft us : Nat → Int32), 1024 - i < m → lo ≤ i → i ≤ n → rc_A rc_kx n F T U fc fd ft us → rc_Ok (tp_mv c pr so ta rs sg le gr bd) (tp_wt bd ur) lo h n F T U → (∀ j, j < i → rc_Dm (tp_mv c pr so ta rs sg le gr bd) F T U j) → (∀ j, j < lo → rc_Dw (tp_wt bd ur) F T j) → T 0 = 0 →
    wX_explore_22 post J (nI lo) (nI h) m (nI i) (nI c) fc (tp_I pr) (tp_I so) (tp_I ta) (tp_I rs) (tp_I sg) (tp_I le) (tp_I gr) (tp_I bd) (tp_I ur) fd ft us := by
  intro m
  induction m with
  | zero => intro i n F T U fc fd ft us h1; omega
  | succ m ih =>
    intro i n F T U fc fd ft us h1 h2 h3 A O dm dw t0
    have hn := rc_Ok_n _ _ O
    have hfc := A.1
    subst hfc
    have out : n ≤ i → ∃ n62, wX_explore_62 post J (nI h) (nI n) n62 (nI lo) (nI c) (nI n) (tp_I pr) (tp_I so) (tp_I ta) (tp_I rs) (tp_I sg) (tp_I le) (tp_I gr) (tp_I bd) (tp_I ur) fd ft us := fun z => p n F T U fd ft us A O (fun j hj => dm j (by omega)) dw t0
    refine pk_le 1024 i (fun z => out (by omega)) (fun _ => ?_)
    refine pk_le n i (fun z => out z) (fun z => ?_)
    have hF := (O.2.2.2.1 i z).1
    have hR := (O.2.2.2.1 i z).2.2
    have hT : T (F i) = h := O.2.2.2.2.1 i h2 z
    have h20 : h ≤ 20 := O.2.1
    rw [hT] at hR
    rw [nI_clamp (show i < 2 ^ 31 by omega), A.2.1 i z]
    refine ⟨vp_in_nI (by omega) (by omega), xs_moveFrom G A O hF hR ?_⟩
    intro n' F' T' U' fc fd ft us A' O' L' d'
    have hl := L'.1
    refine nm_r (nI_1 i) (ih (i + 1) n' F' T' U' fc fd ft us (by omega) (by omega) (by omega) A' O' (fun j hj => ?_) (fun j hj => rc_Dw_le _ _ O L' (by omega) (dw j hj)) ?_)
    · by_cases w : j = i
      · intro e f s' m'
        have e1 : F' j = F i := by rw [w]; exact L'.2.1 i z
        rw [e1] at m' ⊢
        rw [L'.2.2.1 (F i) (by omega), hT]
        exact d' e f s' m'
      · exact rc_Dm_le _ _ O L' (by omega) (dm j (by omega))
    · rw [L'.2.2.1 0 (by omega)]; exact t0
theorem xe_14 {post : SX → Prop} (G : tp_G c pr so ta rs sg le gr bd ur)
    (p : ∀ (lo n : Nat) (F T U : Nat → Nat) (fc : Int32) (fd ft us : Nat → Int32), rc_A rc_kx n F T U fc fd ft us → rc_Ok (tp_mv c pr so ta rs sg le gr bd) (tp_wt bd ur) lo 20 n F T U → rc_Fin (tp_mv c pr so ta rs sg le gr bd) (tp_wt bd ur) T U → post (xs_S c pr so ta rs sg le gr bd ur fc fd ft us)) :
    ∀ (m h lo n : Nat) (F T U : Nat → Nat) (fc : Int32) (fd ft us : Nat → Int32), 21 - h < m → h ≤ 20 → rc_A rc_kx n F T U fc fd ft us → rc_Ok (tp_mv c pr so ta rs sg le gr bd) (tp_wt bd ur) lo h n F T U → (∀ j, j < lo → rc_Dm (tp_mv c pr so ta rs sg le gr bd) F T U j ∧ rc_Dw (tp_wt bd ur) F T j) → T 0 = 0 →
    wX_explore_14 post m (nI lo) (nI h) (nI c) fc (tp_I pr) (tp_I so) (tp_I ta) (tp_I rs) (tp_I sg) (tp_I le) (tp_I gr) (tp_I bd) (tp_I ur) fd ft us := by
  intro m
  induction m with
  | zero => intro h lo n F T U fc fd ft us h1; omega
  | succ m ih =>
    intro h lo n F T U fc fd ft us h1 h2 A O d t0
    refine pk_lt 20 h (fun z => absurd z (by omega)) (fun _ => ⟨1025 + 1, ?_⟩)
    refine xe_22 G ?_ (1025 + 1) lo n F T U fc fd ft us (by omega) (Nat.le_refl lo) O.2.2.1 A O (fun j hj => (d j hj).1) (fun j hj => (d j hj).2) t0
    intro n F T U fd ft us A O dm dw t0
    have hn := rc_Ok_n _ _ O
    by_cases z : h = 20
    · subst z
      obtain ⟨m', rfl⟩ : ∃ m', m = m' + 1 := ⟨m - 1, by omega⟩
      refine ⟨0 + 1, xe_62e (br_t (by decide) (p lo n F T U _ _ _ _ A O ?_))⟩
      refine rc_fin _ _ (fun e f s s' _ mm => tp_mv_lt c pr so ta rs sg le gr bd G.2.2.2.1 mm) (fun s s' _ w => tp_wt_lt bd ur w) O t0 (fun i hi => ⟨dm i hi, ?_⟩)
      by_cases w : i < lo
      · exact dw i w
      · intro s' h' _
        rw [O.2.2.2.2.1 i (by omega) hi] at h'
        omega
    · refine ⟨n + 1, xe_62 (lo := lo) G (by omega) hn ?_ (n + 1) lo n F T U _ fd ft us (by omega) (Nat.le_refl lo) O.2.2.1 A (rc_next _ _ O (by omega)) (fun j h1 h2 => O.2.2.2.2.1 j h1 h2) dm dw t0⟩
      intro n' F' T' U' fc fd ft us A' O' d' t'
      exact ih (h + 1) n n' F' T' U' fc fd ft us (by omega) (by omega) A' O' d' t'
theorem xe_30 {post : SX → Prop} {fc : Int32} {fd ft : Nat → Int32} (p : ∀ us : Nat → Int32, (∀ e, e < 12 → us e = -4) → post (xs_S c pr so ta rs sg le gr bd ur fc fd ft us)) :
    ∀ (m i : Nat) (us : Nat → Int32), 12 - i < m → i ≤ 12 → (∀ e, e < i → us e = -4) → wX_forget_30 post (nI c) fc m (nI i) (tp_I pr) (tp_I so) (tp_I ta) (tp_I rs) (tp_I sg) (tp_I le) (tp_I gr) (tp_I bd) (tp_I ur) fd ft us := by
  intro m
  induction m with
  | zero => intro i us h1; omega
  | succ m ih =>
    intro i us h1 h2 d
    refine pk_le 12 i (fun z => p us (fun e he => d e (by omega))) (fun z => ?_)
    rw [nI_clamp (show i < 2 ^ 31 by omega)]
    refine ⟨vp_in_nI z (by omega), nm_e (nm_r (nI_1 i) (ih (i + 1) _ (by omega) (by omega) (fun e he => ?_)))⟩
    by_cases w : e = i
    · rw [w, pk_us]
    · rw [pk_un w]; exact d e (by omega)
theorem xe_7 {post : SX → Prop} {fc : Int32} {fd us : Nat → Int32} (p : ∀ ft us : Nat → Int32, (∀ s, s < 1024 → ft s = -4) → (∀ e, e < 12 → us e = -4) → post (xs_S c pr so ta rs sg le gr bd ur fc fd ft us)) :
    ∀ (m i : Nat) (ft : Nat → Int32), 1024 - i < m → i ≤ 1024 → (∀ e, e < i → ft e = -4) → wX_forget_7 post (nI c) fc m (nI i) (tp_I pr) (tp_I so) (tp_I ta) (tp_I rs) (tp_I sg) (tp_I le) (tp_I gr) (tp_I bd) (tp_I ur) fd ft us := by
  intro m
  induction m with
  | zero => intro i ft h1; omega
  | succ m ih =>
    intro i ft h1 h2 d
    refine pk_le 1024 i (fun z => ⟨12 + 1, xe_30 (fun us hu => p ft us (fun s hs => d s (by omega)) hu) (12 + 1) 0 us (by omega) (by omega) (fun e he => absurd he (by omega))⟩) (fun z => ?_)
    rw [nI_clamp (show i < 2 ^ 31 by omega)]
    refine ⟨vp_in_nI z (by omega), nm_e (nm_r (nI_1 i) (ih (i + 1) _ (by omega) (by omega) (fun e he => ?_)))⟩
    by_cases w : e = i
    · rw [w, pk_us]
    · rw [pk_un w]; exact d e (by omega)
theorem xe_explore {post : SX → Prop} (G : tp_G c pr so ta rs sg le gr bd ur) {fc : Int32} {fd ft us : Nat → Int32}
    (p : ∀ (lo n : Nat) (F T U : Nat → Nat) (fc : Int32) (fd ft us : Nat → Int32), rc_A rc_kx n F T U fc fd ft us → rc_Ok (tp_mv c pr so ta rs sg le gr bd) (tp_wt bd ur) lo 20 n F T U → rc_Fin (tp_mv c pr so ta rs sg le gr bd) (tp_wt bd ur) T U → post (xs_S c pr so ta rs sg le gr bd ur fc fd ft us)) : wpX_explore post (xs_S c pr so ta rs sg le gr bd ur fc fd ft us) := by
  unfold wpX_explore wpX_forget
  dsimp only
  refine ⟨1024 + 1, xe_7 ?_ (1024 + 1) 0 ft (by omega) (by omega) (fun e he => absurd he (by omega))⟩
  intro ft us h1 h2
  refine xs_note (n := 0) (F := fun _ => 0) (T := fun _ => 21) (U := fun _ => 21) (lo := 0) (s := 0) (h := 0) ⟨rfl, fun i hi => absurd hi (by omega), fun s hs => h1 s hs, fun e he => h2 e he⟩ (rc_begin _ _ (fun _ _ => rfl) (fun _ => rfl)) (by omega) (rc_R0 _ _) ?_
  intro n' F' T' U' fc fd ft us A' O' L' d'
  exact ⟨21 + 1, xe_14 G p (21 + 1) 0 0 n' F' T' U' fc fd ft us (by omega) (by omega) A' O' (fun j hj => absurd hj (by omega)) (by have : T' 0 ≤ 0 := d'; omega)⟩
end
end
section
/-! the reference's search, in its own code of states -/
theorem ty_inj {s t : Nat} (hs : s < 1024) (ht : t < 1024) (h : tp_ph s = tp_ph t) : s = t := by
  rw [← (tp_ps_ph hs).2, ← (tp_ps_ph ht).2, h]
theorem rc_T21 {mv : Nat → Nat → Nat → Nat → Prop} {wt : Nat → Nat → Prop} {lo h n : Nat} {F T U : Nat → Nat} (O : rc_Ok mv wt lo h n F T U) {s : Nat} (hs : s < 1024) : T s ≤ 21 := by
  by_cases z : T s = 21
  · omega
  · have a := rc_Ok_T _ _ O hs z
    have b : h ≤ 20 := O.2.1
    omega
theorem rc_U21 {mv : Nat → Nat → Nat → Nat → Prop} {wt : Nat → Nat → Prop} {lo h n : Nat} {F T U : Nat → Nat} (O : rc_Ok mv wt lo h n F T U) (e : Nat) : U e ≤ 21 := by
  by_cases z : U e = 21
  · omega
  · have a := rc_Ok_U _ _ O z
    have b : h ≤ 20 := O.2.1
    omega
section
variable {c : Nat} {pr so ta rs sg le gr bd ur : Nat → Nat}
theorem ys_use {post : SY → Prop} {lo h n e : Nat} {F T U : Nat → Nat} {fc : Int32} {fd ft us : Nat → Int32} (A : rc_A rc_ky n F T U fc fd ft us) (O : rc_Ok (rc_mY (tp_mv c pr so ta rs sg le gr bd) tp_ph) (rc_wY (tp_wt bd ur) tp_ph) lo h n F T U) (he : e < 12) (V : rc_V (rc_mY (tp_mv c pr so ta rs sg le gr bd) tp_ph) (rc_wY (tp_wt bd ur) tp_ph) e h)
    (p : rc_go (rc_mY (tp_mv c pr so ta rs sg le gr bd) tp_ph) (rc_wY (tp_wt bd ur) tp_ph) rc_ky (ys_S c pr so ta rs sg le gr bd ur) post lo h n F T U (fun _ U' => U' e ≤ h)) : wpY_use post (ys_S c pr so ta rs sg le gr bd ur fc fd ft us) (nI e) (nI h) := by
  have hh : h ≤ 20 := O.2.1
  have hu := rc_U21 O e
  unfold wpY_use
  dsimp only
  rw [nI_clamp (show e < 2 ^ 31 by omega), A.2.2.2 e he]
  refine ⟨vp_in_nI he (by omega), pk_le (U e) h (fun z => p _ _ _ _ _ _ _ _ A O rc_Le_rf z) (fun z => ⟨vp_in_nI he (by omega), nm_e ?_⟩)⟩
  have z' : U e = 21 := by
    by_cases w : U e = 21
    · exact w
    · have := rc_Ok_U _ _ O w
      omega
  obtain ⟨O', L⟩ := rc_use _ _ O z' V
  exact p _ _ _ _ _ _ _ _ (rc_A_use A rfl) O' L (Nat.le_of_eq rc_us)
theorem ys_meet {post : SY → Prop} {lo h n q : Nat} {F T U : Nat → Nat} {fc : Int32} {fd ft us : Nat → Int32} (G : tp_G c pr so ta rs sg le gr bd ur) (A : rc_A rc_ky n F T U fc fd ft us) (O : rc_Ok (rc_mY (tp_mv c pr so ta rs sg le gr bd) tp_ph) (rc_wY (tp_wt bd ur) tp_ph) lo h n F T U) (hq : q < 1024) (R : tp_kb bd (tp_ph q) → rc_R (rc_mY (tp_mv c pr so ta rs sg le gr bd) tp_ph) (rc_wY (tp_wt bd ur) tp_ph) q h)
    (p : rc_go (rc_mY (tp_mv c pr so ta rs sg le gr bd) tp_ph) (rc_wY (tp_wt bd ur) tp_ph) rc_ky (ys_S c pr so ta rs sg le gr bd ur) post lo h n F T U (fun T' _ => tp_kb bd (tp_ph q) → T' q ≤ h)) : wpY_meet post (ys_S c pr so ta rs sg le gr bd ur fc fd ft us) (nI q) (nI h) := by
  have A0 := A
  obtain ⟨rfl, a2, a3, a4⟩ := A
  have hh : h ≤ 20 := O.2.1
  have ht := rc_T21 O hq
  have n1 := rc_Ok_n _ _ O
  unfold wpY_meet
  dsimp only
  rw [nI_clamp (show q < 2 ^ 31 by omega), nI_clamp (show n < 2 ^ 31 by omega), a3 q hq]
  refine ⟨vp_in_nI hq (by omega), pk_le (T q) h (fun z => p _ _ _ _ _ _ _ _ A0 O rc_Le_rf (fun _ => z)) (fun z => pk_lt 20 h (fun w => absurd w (by omega)) (fun _ => ?_))⟩
  have z' : T q = 21 := by
    by_cases w : T q = 21
    · exact w
    · have := rc_Ok_T _ _ O hq w
      omega
  refine ym_inBounds G hq (fun kb => br_f (by decide) ?_) (fun kb => br_t rfl (p _ _ _ _ _ _ _ _ A0 O rc_Le_rf (fun k => absurd k kb)))
  obtain ⟨hn, O', L⟩ := rc_note _ _ O hq z' (R kb)
  refine ⟨vp_in_nI hq (by omega), nm_e ⟨vp_in_nI hn (by omega), nm_e (nm_r (nI_1 n) ?_)⟩⟩
  exact p _ _ _ _ _ _ _ _ (rc_A_note A0 rfl) O' L (fun _ => Nat.le_of_eq rc_us)
theorem ys_s40 {post : SY → Prop} {lo h n q t : Nat} {F T U : Nat → Nat} {fc : Int32} {fd ft us : Nat → Int32} (G : tp_G c pr so ta rs sg le gr bd ur) (A : rc_A rc_ky n F T U fc fd ft us) (O : rc_Ok (rc_mY (tp_mv c pr so ta rs sg le gr bd) tp_ph) (rc_wY (tp_wt bd ur) tp_ph) lo h n F T U) (hq : q < 1024) (hT : T q = h) (ht : t < 1024) (R : tp_kb bd (tp_ph t) → rc_R (rc_mY (tp_mv c pr so ta rs sg le gr bd) tp_ph) (rc_wY (tp_wt bd ur) tp_ph) t h)
    (p : rc_go (rc_mY (tp_mv c pr so ta rs sg le gr bd) tp_ph) (rc_wY (tp_wt bd ur) tp_ph) rc_ky (ys_S c pr so ta rs sg le gr bd ur) post lo h n F T U (fun T' _ => tp_kb bd (tp_ph t) → T' t ≤ h)) : wY_silent_40 post (nI q) (nI t) (nI c) fc (tp_I pr) (tp_I so) (tp_I ta) (tp_I rs) (tp_I sg) (tp_I le) (tp_I gr) (tp_I bd) (tp_I ur) ft fd us := by
  unfold wY_silent_40
  rw [nI_clamp (show q < 2 ^ 31 by omega), A.2.2.1 q hq, hT]
  exact ⟨vp_in_nI hq (by omega), ys_meet G A O ht R (fun n' F' T' U' fc fd ft us A' O' L' d' => p n' F' T' U' fc fd ft us A' O' L' d')⟩
theorem ys_j69 {post : SY → Prop} {lo h n q t : Nat} {F T U : Nat → Nat} {fc : Int32} {fd ft us : Nat → Int32} (G : tp_G c pr so ta rs sg le gr bd ur) (A : rc_A rc_ky n F T U fc fd ft us) (O : rc_Ok (rc_mY (tp_mv c pr so ta rs sg le gr bd) tp_ph) (rc_wY (tp_wt bd ur) tp_ph) lo h n F T U) (hq : q < 1024) (hT : T q = h) (ht : t < 1024) (R : tp_kb bd (tp_ph t) → rc_R (rc_mY (tp_mv c pr so ta rs sg le gr bd) tp_ph) (rc_wY (tp_wt bd ur) tp_ph) t h)
    (p : rc_go (rc_mY (tp_mv c pr so ta rs sg le gr bd) tp_ph) (rc_wY (tp_wt bd ur) tp_ph) rc_ky (ys_S c pr so ta rs sg le gr bd ur) post lo h n F T U (fun T' _ => tp_kb bd (tp_ph t) → T' t ≤ h)) : wY_joint_69 post (nI q) (nI t) (nI c) fc (tp_I pr) (tp_I so) (tp_I ta) (tp_I rs) (tp_I sg) (tp_I le) (tp_I gr) (tp_I bd) (tp_I ur) ft fd us := by
  unfold wY_joint_69
  rw [nI_clamp (show q < 2 ^ 31 by omega), A.2.2.1 q hq, hT]
  exact ⟨vp_in_nI hq (by omega), ys_meet G A O ht R (fun n' F' T' U' fc fd ft us A' O' L' d' => p n' F' T' U' fc fd ft us A' O' L' d')⟩
theorem ys_silent {post : SY → Prop} {lo h n q e : Nat} {F T U : Nat → Nat} {fc : Int32} {fd ft us : Nat → Int32} (G : tp_G c pr so ta rs sg le gr bd ur) (A : rc_A rc_ky n F T U fc fd ft us) (O : rc_Ok (rc_mY (tp_mv c pr so ta rs sg le gr bd) tp_ph) (rc_wY (tp_wt bd ur) tp_ph) lo h n F T U) (hq : q < 1024) (hT : T q = h) (R : rc_R (rc_mY (tp_mv c pr so ta rs sg le gr bd) tp_ph) (rc_wY (tp_wt bd ur) tp_ph) q h) (he : e < c) (oe : tp_op pr so le gr e (tp_ph q)) (se : sg e = 0)
    (p : rc_go (rc_mY (tp_mv c pr so ta rs sg le gr bd) tp_ph) (rc_wY (tp_wt bd ur) tp_ph) rc_ky (ys_S c pr so ta rs sg le gr bd ur) post lo h n F T U (rc_dn (rc_mY (tp_mv c pr so ta rs sg le gr bd) tp_ph) q h e e)) : wpY_silent post (ys_S c pr so ta rs sg le gr bd ur fc fd ft us) (nI e) (nI q) := by
  have c12 := G.1
  have hh : h ≤ 20 := O.2.1
  have gt := G.2.2.2.1 e
  have gr' := G.2.2.2.2.1 e
  have l1 := (ty_mo_p pr ta gt hq).1
  have l2 := (ty_cl_p (set := rs e) l1).1
  have es : tp_ph (ty_cl (ty_mo pr ta e q) (rs e)) = tp_fo pr ta rs e (tp_fo pr ta rs e (tp_ph q)) := by rw [tp_fo2 pr ta rs gt]; exact ty_silent pr ta rs gt hq
  have only : ∀ s', (rc_mY (tp_mv c pr so ta rs sg le gr bd) tp_ph) e e q s' → s' = ty_cl (ty_mo pr ta e q) (rs e) ∧ tp_kb bd (tp_ph (ty_cl (ty_mo pr ta e q) (rs e))) := by
    intro s' m
    obtain ⟨m0, _, _, _, _, _, m6, m7⟩ := m
    have e1 := ty_inj m0 l2 (m6.trans es.symm)
    rw [e1] at m7
    exact ⟨e1, m7⟩
  have mk : tp_kb bd (tp_ph (ty_cl (ty_mo pr ta e q) (rs e))) → (rc_mY (tp_mv c pr so ta rs sg le gr bd) tp_ph) e e q (ty_cl (ty_mo pr ta e q) (rs e)) := fun kb => ⟨l2, he, he, Or.inl ⟨rfl, se⟩, oe, oe, es, kb⟩
  unfold wpY_silent
  dsimp only
  refine ym_moved G hq (by omega) ⟨vp_in_nI (by omega) (by omega), ?_⟩
  rw [nI_clamp (show e < 2 ^ 31 by omega), nI_clamp (show q < 2 ^ 31 by omega), A.2.2.1 q hq, hT]
  refine ym_cleared l1 gr' ?_
  refine ym_inBounds G l2 (fun kb => br_f (by decide) ⟨vp_in_nI hq (by omega), ?_⟩) (fun kb => br_t rfl (ys_s40 G A O hq hT l2 (fun k => absurd k kb) ?_))
  · refine ys_use A O (by omega) ⟨e, q, _, R, Or.inl (mk kb)⟩ ?_
    intro n1 F1 T1 U1 fc fd ft us A1 O1 L1 d1
    refine ys_s40 G A1 O1 hq (by rw [L1.2.2.1 q (by omega)]; exact hT) l2 (fun k => rc_Rm _ _ R (mk k)) ?_
    intro n2 F2 T2 U2 fc fd ft us A2 O2 L2 d2
    refine p n2 F2 T2 U2 fc fd ft us A2 O2 (rc_Le_tr L1 L2) ?_
    intro s' m
    rw [(only s' m).1]
    have u1 : U1 e ≤ h := d1
    have u2 : U2 e ≤ h := by rw [L2.2.2.2 e (by omega)]; exact u1
    exact ⟨d2 kb, u2, u2⟩
  · intro n1 F1 T1 U1 fc fd ft us A1 O1 L1 d1
    exact p n1 F1 T1 U1 fc fd ft us A1 O1 L1 (fun s' m => absurd (only s' m).2 kb)
theorem ys_joint {post : SY → Prop} {lo h n q e f : Nat} {F T U : Nat → Nat} {fc : Int32} {fd ft us : Nat → Int32} (G : tp_G c pr so ta rs sg le gr bd ur) (A : rc_A rc_ky n F T U fc fd ft us) (O : rc_Ok (rc_mY (tp_mv c pr so ta rs sg le gr bd) tp_ph) (rc_wY (tp_wt bd ur) tp_ph) lo h n F T U) (hq : q < 1024) (hT : T q = h) (R : rc_R (rc_mY (tp_mv c pr so ta rs sg le gr bd) tp_ph) (rc_wY (tp_wt bd ur) tp_ph) q h) (he : e < c) (hf : f < c) (oe : tp_op pr so le gr e (tp_ph q)) (of : tp_op pr so le gr f (tp_ph q)) (pa : ty_pa pr sg e f)
    (p : rc_go (rc_mY (tp_mv c pr so ta rs sg le gr bd) tp_ph) (rc_wY (tp_wt bd ur) tp_ph) rc_ky (ys_S c pr so ta rs sg le gr bd ur) post lo h n F T U (rc_dn (rc_mY (tp_mv c pr so ta rs sg le gr bd) tp_ph) q h e f)) : wpY_joint post (ys_S c pr so ta rs sg le gr bd ur fc fd ft us) (nI e) (nI f) (nI q) := by
  have c12 := G.1
  have hh : h ≤ 20 := O.2.1
  have gt := G.2.2.2.1
  have gr' := G.2.2.2.2.1
  have l1 := (ty_mo_p pr ta (gt e) hq).1
  have l2 := (ty_mo_p pr ta (gt f) l1).1
  have ro := (ty_or (rs e) (gr' e) (rs f) (gr' f)).2.2
  have l3 := (ty_cl_p (set := rs e ||| rs f) l2).1
  have es : tp_ph (ty_cl (ty_mo pr ta f (ty_mo pr ta e q)) (rs e ||| rs f)) = tp_fo pr ta rs f (tp_fo pr ta rs e (tp_ph q)) := ty_joint pr ta rs gt gr' hq
  have hne : e ≠ f := by
    intro z
    have a := pa.1
    have b := pa.2.1
    rw [z] at a
    omega
  have only : ∀ s', (rc_mY (tp_mv c pr so ta rs sg le gr bd) tp_ph) e f q s' → s' = ty_cl (ty_mo pr ta f (ty_mo pr ta e q)) (rs e ||| rs f) ∧ tp_kb bd (tp_ph (ty_cl (ty_mo pr ta f (ty_mo pr ta e q)) (rs e ||| rs f))) := by
    intro s' m
    obtain ⟨m0, _, _, _, _, _, m6, m7⟩ := m
    have e1 := ty_inj m0 l3 (m6.trans es.symm)
    rw [e1] at m7
    exact ⟨e1, m7⟩
  have mk : tp_kb bd (tp_ph (ty_cl (ty_mo pr ta f (ty_mo pr ta e q)) (rs e ||| rs f))) → (rc_mY (tp_mv c pr so ta rs sg le gr bd) tp_ph) e f q (ty_cl (ty_mo pr ta f (ty_mo pr ta e q)) (rs e ||| rs f)) := fun kb => ⟨l3, he, hf, Or.inr ⟨hne, pa⟩, oe, of, es, kb⟩
  unfold wpY_joint
  dsimp only
  refine ym_moved G hq (by omega) ?_
  refine ym_moved G l1 (by omega) ⟨vp_in_nI (by omega) (by omega), vp_in_nI (by omega) (by omega), ?_⟩
  rw [nI_clamp (show e < 2 ^ 31 by omega), nI_clamp (show f < 2 ^ 31 by omega), nI_clamp (show q < 2 ^ 31 by omega), A.2.2.1 q hq, hT, show tp_I rs e ||| tp_I rs f = nI (rs e ||| rs f) from bx_or _ _]
  refine ym_cleared l2 ro ?_
  refine ym_inBounds G l3 (fun kb => br_f (by decide) ⟨vp_in_nI hq (by omega), ?_⟩) (fun kb => br_t rfl (ys_j69 G A O hq hT l3 (fun k => absurd k kb) ?_))
  · refine ys_use A O (by omega) ⟨f, q, _, R, Or.inl (mk kb)⟩ ?_
    intro n1 F1 T1 U1 fc1 fd1 ft1 us1 A1 O1 L1 d1
    have hT1 : T1 q = h := by rw [L1.2.2.1 q (by omega)]; exact hT
    have e9 : ft1 q = nI h := by rw [A1.2.2.1 q hq, hT1]; rfl
    refine ⟨vp_in_nI hq (by omega), ?_⟩
    show wpY_use _ _ (nI f) (ft1 q)
    rw [e9]
    refine ys_use A1 O1 (by omega) ⟨e, q, _, R, Or.inr (mk kb)⟩ ?_
    intro n2 F2 T2 U2 fc2 fd2 ft2 us2 A2 O2 L2 d2
    refine ys_j69 G A2 O2 hq (by rw [L2.2.2.1 q (by omega)]; exact hT1) l3 (fun k => rc_Rm _ _ R (mk k)) ?_
    intro n3 F3 T3 U3 fc3 fd3 ft3 us3 A3 O3 L3 d3
    refine p n3 F3 T3 U3 fc3 fd3 ft3 us3 A3 O3 (rc_Le_tr L1 (rc_Le_tr L2 L3)) ?_
    intro s' m
    rw [(only s' m).1]
    have u1 : U1 e ≤ h := d1
    have u2 : U2 f ≤ h := d2
    refine ⟨d3 kb, ?_, ?_⟩
    · rw [(rc_Le_tr L2 L3).2.2.2 e (by omega)]; exact u1
    · rw [L3.2.2.2 f (by omega)]; exact u2
  · intro n1 F1 T1 U1 fc fd ft us A1 O1 L1 d1
    exact p n1 F1 T1 U1 fc fd ft us A1 O1 L1 (fun s' m => absurd (only s' m).2 kb)
end
end
section
/-! the reference's work -/
/-- the state behind a wait, in the reference's code -/
def ty_wo (q : Nat) : Nat := q / 64 * 64 + 8 * tp_in (q / 8 % 8) + tp_in (q % 8)
theorem ty_wo_p {q : Nat} (hq : q < 1024) : ty_wo q < 1024 ∧ tp_ph (ty_wo q) = tp_wo (tp_ph q) := by
  have key : ∀ a b : Nat, a < 8 → b < 8 → q / 64 * 64 + 8 * a + b < 1024 ∧ (q / 64 * 64 + 8 * a + b) / 64 % 4 = q / 64 % 4 ∧ (q / 64 * 64 + 8 * a + b) / 256 % 4 = q / 256 % 4 ∧ (q / 64 * 64 + 8 * a + b) / 8 % 8 = a ∧ (q / 64 * 64 + 8 * a + b) % 8 = b := by
    intro a b ha hb; omega
  obtain ⟨k0, k1, k2, k3, k4⟩ := key (tp_in (q / 8 % 8)) (tp_in (q % 8)) (tp_in_lt _) (tp_in_lt _)
  obtain ⟨p1, p2, p3, p4⟩ := tp_ph_p q
  refine ⟨k0, ?_⟩
  show tp_mk _ _ _ _ = tp_mk _ _ _ _
  rw [p1, p2, p3, p4]
  unfold ty_wo
  rw [k1, k2, k3, k4]
section
variable {c : Nat} {pr so ta rs sg le gr bd ur : Nat → Nat}
theorem ys_m36 {post : SY → Prop} {J : Int32 → Int32 → Int32 → (Nat → Int32) → (Nat → Int32) → (Nat → Int32) → (Nat → Int32) → (Nat → Int32) → (Nat → Int32) → (Nat → Int32) → (Nat → Int32) → (Nat → Int32) → (Nat → Int32) → (Nat → Int32) → (Nat → Int32) → Prop} {lo h q e : Nat} (G : tp_G c pr so ta rs sg le gr bd ur) (hq : q < 1024) (he : e < c) (R : rc_R (rc_mY (tp_mv c pr so ta rs sg le gr bd) tp_ph) (rc_wY (tp_wt bd ur) tp_ph) q h) (oe : tp_op pr so le gr e (tp_ph q)) :
    ∀ (m f n : Nat) (F T U : Nat → Nat) (fc : Int32) (fd ft us : Nat → Int32), c - f < m → f ≤ c → rc_A rc_ky n F T U fc fd ft us → rc_Ok (rc_mY (tp_mv c pr so ta rs sg le gr bd) tp_ph) (rc_wY (tp_wt bd ur) tp_ph) lo h n F T U → T q = h → rc_dn (rc_mY (tp_mv c pr so ta rs sg le gr bd) tp_ph) q h e e T U → (∀ f', f' < f → rc_dn (rc_mY (tp_mv c pr so ta rs sg le gr bd) tp_ph) q h e f' T U) →
    (∀ (n' : Nat) (F' T' U' : Nat → Nat) (fc : Int32) (fd ft us : Nat → Int32), rc_A rc_ky n' F' T' U' fc fd ft us → rc_Ok (rc_mY (tp_mv c pr so ta rs sg le gr bd) tp_ph) (rc_wY (tp_wt bd ur) tp_ph) lo h n' F' T' U' → rc_Le n F T U n' F' T' U' → (∀ f', f' < c → rc_dn (rc_mY (tp_mv c pr so ta rs sg le gr bd) tp_ph) q h e f' T' U') → J (nI (e + 1)) (nI c) fc (tp_I pr) (tp_I so) (tp_I ta) (tp_I rs) (tp_I sg) (tp_I le) (tp_I gr) (tp_I bd) (tp_I ur) ft fd us) →
    wY_moves_36 post J (nI q) (nI e) m (nI f) (nI c) fc (tp_I pr) (tp_I so) (tp_I ta) (tp_I rs) (tp_I sg) (tp_I le) (tp_I gr) (tp_I bd) (tp_I ur) ft fd us := by
  have c12 := G.1
  intro m
  induction m with
  | zero => intro f n F T U fc fd ft us h1; omega
  | succ m ih =>
    intro f n F T U fc fd ft us h1 h2 A O hT d0 dn p
    have hh : h ≤ 20 := O.2.1
    refine pk_le c f (fun z => nm_r (nI_1 e) (p n F T U fc fd ft us A O rc_Le_rf (fun f' hf' => dn f' (by omega)))) (fun z => ?_)
    have next : ∀ (n' : Nat) (F' T' U' : Nat → Nat) (fc : Int32) (fd ft us : Nat → Int32), rc_A rc_ky n' F' T' U' fc fd ft us → rc_Ok (rc_mY (tp_mv c pr so ta rs sg le gr bd) tp_ph) (rc_wY (tp_wt bd ur) tp_ph) lo h n' F' T' U' → rc_Le n F T U n' F' T' U' → rc_dn (rc_mY (tp_mv c pr so ta rs sg le gr bd) tp_ph) q h e f T' U' → wY_moves_36 post J (nI q) (nI e) m (nI (f + 1)) (nI c) fc (tp_I pr) (tp_I so) (tp_I ta) (tp_I rs) (tp_I sg) (tp_I le) (tp_I gr) (tp_I bd) (tp_I ur) ft fd us := by
      intro n' F' T' U' fc fd ft us A' O' L' d'
      refine ih (f + 1) n' F' T' U' fc fd ft us (by omega) (by omega) A' O' (by rw [L'.2.2.1 q (by omega)]; exact hT) (rc_dn_le hh L' d0) (fun f' hf' => ?_) (fun n2 F2 T2 U2 fc fd ft us A2 O2 L2 d2 => p n2 F2 T2 U2 fc fd ft us A2 O2 (rc_Le_tr L' L2) d2)
      by_cases w : f' = f
      · rw [w]; exact d'
      · exact rc_dn_le hh L' (dn f' (by omega))
    refine ym_partners G (by omega) (by omega) (fun pa => br_f (by decide) ?_) (fun pa => br_t rfl (nm_r (nI_1 f) (next n F T U fc fd ft us A O rc_Le_rf ?_)))
    · refine ym_open G hq (by omega) (fun of => br_f (by decide) ?_) (fun of => br_t rfl (nm_r (nI_1 f) (next n F T U fc fd ft us A O rc_Le_rf (fun s' m' => absurd m'.2.2.2.2.2.1 of))))
      refine ys_joint G A O hq hT R he z oe of pa ?_
      intro n' F' T' U' fc fd ft us A' O' L' d'
      exact nm_r (nI_1 f) (next n' F' T' U' fc fd ft us A' O' L' d')
    · intro s' m'
      rcases m'.2.2.2.1 with w | w
      · rw [← w.1] at m' ⊢
        exact d0 s' m'
      · exact absurd w.2 pa
theorem ys_m2 {post : SY → Prop} {lo h q : Nat} (G : tp_G c pr so ta rs sg le gr bd ur) (hq : q < 1024) (R : rc_R (rc_mY (tp_mv c pr so ta rs sg le gr bd) tp_ph) (rc_wY (tp_wt bd ur) tp_ph) q h) :
    ∀ (m e n : Nat) (F T U : Nat → Nat) (fc : Int32) (fd ft us : Nat → Int32), c - e < m → e ≤ c → rc_A rc_ky n F T U fc fd ft us → rc_Ok (rc_mY (tp_mv c pr so ta rs sg le gr bd) tp_ph) (rc_wY (tp_wt bd ur) tp_ph) lo h n F T U → T q = h → (∀ e', e' < e → ∀ f', f' < c → rc_dn (rc_mY (tp_mv c pr so ta rs sg le gr bd) tp_ph) q h e' f' T U) →
    rc_go (rc_mY (tp_mv c pr so ta rs sg le gr bd) tp_ph) (rc_wY (tp_wt bd ur) tp_ph) rc_ky (ys_S c pr so ta rs sg le gr bd ur) post lo h n F T U (fun T' U' => ∀ e', e' < c → ∀ f', f' < c → rc_dn (rc_mY (tp_mv c pr so ta rs sg le gr bd) tp_ph) q h e' f' T' U') →
    wY_moves_2 post (nI q) m (nI e) (nI c) fc (tp_I pr) (tp_I so) (tp_I ta) (tp_I rs) (tp_I sg) (tp_I le) (tp_I gr) (tp_I bd) (tp_I ur) ft fd us := by
  have c12 := G.1
  intro m
  induction m with
  | zero => intro e n F T U fc fd ft us h1; omega
  | succ m ih =>
    intro e n F T U fc fd ft us h1 h2 A O hT dn p
    have hh : h ≤ 20 := O.2.1
    have gs := G.2.2.2.2.2.1 e
    refine pk_le c e (fun z => p n F T U fc fd ft us A O rc_Le_rf (fun e' he' => dn e' (by omega))) (fun z => ?_)
    have next : ∀ (n' : Nat) (F' T' U' : Nat → Nat) (fc : Int32) (fd ft us : Nat → Int32), rc_A rc_ky n' F' T' U' fc fd ft us → rc_Ok (rc_mY (tp_mv c pr so ta rs sg le gr bd) tp_ph) (rc_wY (tp_wt bd ur) tp_ph) lo h n' F' T' U' → rc_Le n F T U n' F' T' U' → (∀ f', f' < c → rc_dn (rc_mY (tp_mv c pr so ta rs sg le gr bd) tp_ph) q h e f' T' U') → wY_moves_2 post (nI q) m (nI (e + 1)) (nI c) fc (tp_I pr) (tp_I so) (tp_I ta) (tp_I rs) (tp_I sg) (tp_I le) (tp_I gr) (tp_I bd) (tp_I ur) ft fd us := by
      intro n' F' T' U' fc fd ft us A' O' L' d'
      refine ih (e + 1) n' F' T' U' fc fd ft us (by omega) (by omega) A' O' (by rw [L'.2.2.1 q (by omega)]; exact hT) (fun e' he' f' hf' => ?_) (fun n2 F2 T2 U2 fc fd ft us A2 O2 L2 d2 => p n2 F2 T2 U2 fc fd ft us A2 O2 (rc_Le_tr L' L2) d2)
      by_cases w : e' = e
      · rw [w]; exact d' f' hf'
      · exact rc_dn_le hh L' (dn e' (by omega) f' hf')
    refine ym_open G hq (by omega) (fun oe => br_f (by decide) ⟨vp_in_nI (by omega) (by omega), ?_⟩) (fun oe => br_t rfl (nm_r (nI_1 e) (next n F T U fc fd ft us A O rc_Le_rf (fun f' hf' s' m' => absurd m'.2.2.2.2.1 oe))))
    rw [nI_clamp (show e < 2 ^ 31 by omega)]
    refine pk_eq (sg e) 0 (fun se => ?_) (fun se => ⟨c + 1, ?_⟩)
    · refine ys_silent G A O hq hT R z oe se ?_
      intro n1 F1 T1 U1 fc fd ft us A1 O1 L1 d1
      refine ⟨c + 1, ys_m36 G hq z R oe (c + 1) 0 n1 F1 T1 U1 fc fd ft us (by omega) (by omega) A1 O1 (by rw [L1.2.2.1 q (by omega)]; exact hT) d1 (fun f' hf' => absurd hf' (by omega)) ?_⟩
      intro n' F' T' U' fc fd ft us A' O' L' d'
      exact next n' F' T' U' fc fd ft us A' O' (rc_Le_tr L1 L') d'
    · refine ys_m36 G hq z R oe (c + 1) 0 n F T U fc fd ft us (by omega) (by omega) A O hT ?_ (fun f' hf' => absurd hf' (by omega)) next
      intro s' m'
      rcases m'.2.2.2.1 with w | w
      · exact absurd w.2 se
      · exact absurd rfl w.1
theorem ys_moves {post : SY → Prop} {lo h n q : Nat} {F T U : Nat → Nat} {fc : Int32} {fd ft us : Nat → Int32} (G : tp_G c pr so ta rs sg le gr bd ur) (A : rc_A rc_ky n F T U fc fd ft us) (O : rc_Ok (rc_mY (tp_mv c pr so ta rs sg le gr bd) tp_ph) (rc_wY (tp_wt bd ur) tp_ph) lo h n F T U) (hq : q < 1024) (hT : T q = h) (R : rc_R (rc_mY (tp_mv c pr so ta rs sg le gr bd) tp_ph) (rc_wY (tp_wt bd ur) tp_ph) q h)
    (p : rc_go (rc_mY (tp_mv c pr so ta rs sg le gr bd) tp_ph) (rc_wY (tp_wt bd ur) tp_ph) rc_ky (ys_S c pr so ta rs sg le gr bd ur) post lo h n F T U (fun T' U' => ∀ e f, rc_dn (rc_mY (tp_mv c pr so ta rs sg le gr bd) tp_ph) q h e f T' U')) : wpY_moves post (ys_S c pr so ta rs sg le gr bd ur fc fd ft us) (nI q) := by
  refine ⟨c + 1, ys_m2 G hq R (c + 1) 0 n F T U fc fd ft us (by omega) (by omega) A O hT (fun f' hf' => absurd hf' (by omega)) ?_⟩
  intro n' F' T' U' fc fd ft us A' O' L' d'
  exact p n' F' T' U' fc fd ft us A' O' L' (fun e f s' m => d' e m.2.1 f m.2.2.1 s' m)
theorem ys_w75 {post : SY → Prop} {q a x y : Nat} {fc : Int32} {fd ft us : Nat → Int32} (hy : y < 8) (ok : wY_waits_93 post (nI q) (nI (tp_in y)) (nI (a + 8 * x)) (nI c) fc (tp_I pr) (tp_I so) (tp_I ta) (tp_I rs) (tp_I sg) (tp_I le) (tp_I gr) (tp_I bd) (tp_I ur) ft fd us) : wY_waits_75 post (nI q) (nI y) (nI x) 8 (nI a) (nI c) fc (tp_I pr) (tp_I so) (tp_I ta) (tp_I rs) (tp_I sg) (tp_I le) (tp_I gr) (tp_I bd) (tp_I ur) ft fd us := by
  unfold wY_waits_75
  rw [show nI a + 8 * nI x = nI (a + 8 * x) from by rw [show (8 : Int32) = nI 8 from rfl, pk_mul, nI_add]]
  unfold tp_in at ok
  refine pk_le 7 y (fun z => ?_) (fun z => ?_)
  · rw [if_neg (by omega)] at ok
    exact ok
  · rw [if_pos (by omega)] at ok
    rw [nI_1]
    exact ok
theorem ys_ww {post : SY → Prop} {q : Nat} {fc : Int32} {fd ft us : Nat → Int32} (G : tp_G c pr so ta rs sg le gr bd ur) (hq : q < 1024) (bad : ¬ (ur (tp_pl (tp_ph q) 0) = 0 ∧ ur (4 + tp_pl (tp_ph q) 1) = 0) → post (ys_S c pr so ta rs sg le gr bd ur fc fd ft us))
    (ok : ur (tp_pl (tp_ph q) 0) = 0 → ur (4 + tp_pl (tp_ph q) 1) = 0 → wY_waits_93 post (nI q) (nI (tp_in (q % 8))) (nI (q / 64 * 64 + 8 * tp_in (q / 8 % 8))) (nI c) fc (tp_I pr) (tp_I so) (tp_I ta) (tp_I rs) (tp_I sg) (tp_I le) (tp_I gr) (tp_I bd) (tp_I ur) ft fd us) : wpY_waits post (ys_S c pr so ta rs sg le gr bd ur fc fd ft us) (nI q) := by
  have l0 := tp_pl_lt (tp_ph q) 0
  have l1 := tp_pl_lt (tp_ph q) 1
  have e0 : 4 * 0 + tp_pl (tp_ph q) 0 = tp_pl (tp_ph q) 0 := by omega
  have e1 : 4 * 1 + tp_pl (tp_ph q) 1 = 4 + tp_pl (tp_ph q) 1 := by omega
  have g0 := G.2.2.2.2.2.2.2.2.2 (tp_pl (tp_ph q) 0)
  have g1 := G.2.2.2.2.2.2.2.2.2 (4 + tp_pl (tp_ph q) 1)
  unfold wpY_waits
  dsimp only
  refine ym_placeOf (p := 0) hq (by omega) ?_
  refine ym_placeOf (p := 1) hq (by omega) ?_
  rw [e0, e1, nI_clamp (by omega), nI_clamp (by omega)]
  refine ⟨vp_in_nI (by omega) (by omega), pk_eq (ur (tp_pl (tp_ph q) 0)) 0 (fun u0 => ⟨vp_in_nI (by omega) (by omega), pk_eq (ur (4 + tp_pl (tp_ph q) 1)) 0 (fun u1 => ?_) (fun u1 => bad (fun o => u1 o.2))⟩) (fun u0 => bad (fun o => u0 o.1))⟩
  refine ym_value (k := 0) hq (by omega) ?_
  refine ym_value (k := 1) hq (by omega) ?_
  have v0 : tp_ck (tp_ph q) 0 = q / 8 % 8 := (tp_ph_p q).2.2.1
  have v1 : tp_ck (tp_ph q) 1 = q % 8 := (tp_ph_p q).2.2.2
  rw [v0, v1]
  refine ⟨by decide, ?_⟩
  rw [show nI q / 64 * 64 = nI (q / 64 * 64) from by rw [show (64 : Int32) = nI 64 from rfl, pk_div (by omega) (by omega) (by omega), pk_mul]]
  have ok' := ok u0 u1
  refine pk_le 7 (q / 8 % 8) (fun z => ?_) (fun z => ?_)
  · rw [show tp_in (q / 8 % 8) = 7 from if_neg (by omega)] at ok'
    exact ys_w75 (x := 7) (by omega) ok'
  · rw [show tp_in (q / 8 % 8) = q / 8 % 8 + 1 from if_pos (by omega)] at ok'
    rw [nI_1]
    exact ys_w75 (by omega) ok'
theorem ys_waits {post : SY → Prop} {lo h n q : Nat} {F T U : Nat → Nat} {fc : Int32} {fd ft us : Nat → Int32} (G : tp_G c pr so ta rs sg le gr bd ur) (A : rc_A rc_ky n F T U fc fd ft us) (O : rc_Ok (rc_mY (tp_mv c pr so ta rs sg le gr bd) tp_ph) (rc_wY (tp_wt bd ur) tp_ph) lo (h + 1) n F T U) (hq : q < 1024) (hT : T q = h) (R : rc_R (rc_mY (tp_mv c pr so ta rs sg le gr bd) tp_ph) (rc_wY (tp_wt bd ur) tp_ph) q h)
    (p : rc_go (rc_mY (tp_mv c pr so ta rs sg le gr bd) tp_ph) (rc_wY (tp_wt bd ur) tp_ph) rc_ky (ys_S c pr so ta rs sg le gr bd ur) post lo (h + 1) n F T U (fun T' _ => ∀ s', (rc_wY (tp_wt bd ur) tp_ph) q s' → T' s' ≤ h + 1)) : wpY_waits post (ys_S c pr so ta rs sg le gr bd ur fc fd ft us) (nI q) := by
  have hh : h + 1 ≤ 20 := O.2.1
  obtain ⟨w0, w1⟩ := ty_wo_p hq
  refine ys_ww G hq (fun u => p _ _ _ _ _ _ _ _ A O rc_Le_rf (fun s' w => absurd ⟨w.2.1, w.2.2.1⟩ u)) (fun u0 u1 => ?_)
  unfold wY_waits_93
  rw [nI_clamp (show q < 2 ^ 31 by omega), A.2.2.1 q hq, hT, show rc_ky h + 1 = nI (h + 1) from nI_1 h, nI_add]
  have mk : tp_kb bd (tp_ph (ty_wo q)) → (rc_wY (tp_wt bd ur) tp_ph) q (ty_wo q) := fun kb => ⟨w0, u0, u1, w1, kb⟩
  refine ⟨vp_in_nI hq (by omega), ys_meet (q := ty_wo q) G A O w0 (fun kb => rc_Rw _ _ R (by omega) (mk kb)) ?_⟩
  intro n' F' T' U' fc fd ft us A' O' L' d'
  refine p n' F' T' U' fc fd ft us A' O' L' (fun s' w => ?_)
  have e1 : s' = ty_wo q := ty_inj w.1 w0 (w.2.2.2.1.trans w1.symm)
  have kb := w.2.2.2.2
  rw [e1] at kb ⊢
  exact d' kb
theorem ys_waits20 {post : SY → Prop} {lo n q : Nat} {F T U : Nat → Nat} {fc : Int32} {fd ft us : Nat → Int32} (G : tp_G c pr so ta rs sg le gr bd ur) (A : rc_A rc_ky n F T U fc fd ft us) (O : rc_Ok (rc_mY (tp_mv c pr so ta rs sg le gr bd) tp_ph) (rc_wY (tp_wt bd ur) tp_ph) lo 20 n F T U) (hq : q < 1024) (hT : T q = 20)
    (p : post (ys_S c pr so ta rs sg le gr bd ur fc fd ft us)) : wpY_waits post (ys_S c pr so ta rs sg le gr bd ur fc fd ft us) (nI q) := by
  obtain ⟨w0, w1⟩ := ty_wo_p hq
  refine ys_ww G hq (fun _ => p) (fun u0 u1 => ?_)
  unfold wY_waits_93 wpY_meet
  dsimp only
  rw [nI_clamp (show q < 2 ^ 31 by omega), A.2.2.1 q hq, hT, show rc_ky 20 + 1 = nI 21 from nI_1 20, nI_add, show q / 64 * 64 + 8 * tp_in (q / 8 % 8) + tp_in (q % 8) = ty_wo q from rfl, nI_clamp (show ty_wo q < 2 ^ 31 by omega), A.2.2.1 _ w0]
  exact ⟨vp_in_nI hq (by omega), vp_in_nI w0 (by omega), br_t (nI_le (rc_T21 O w0) (by omega)) p⟩
theorem ye_95 {post : SY → Prop} {J : Int32 → Int32 → Int32 → Int32 → (Nat → Int32) → (Nat → Int32) → (Nat → Int32) → (Nat → Int32) → (Nat → Int32) → (Nat → Int32) → (Nat → Int32) → (Nat → Int32) → (Nat → Int32) → (Nat → Int32) → (Nat → Int32) → (Nat → Int32) → Prop} {h lo b : Nat} (G : tp_G c pr so ta rs sg le gr bd ur) (hh : h < 20) (hb : b ≤ 1024)
    (p : ∀ (n : Nat) (F T U : Nat → Nat) (fc : Int32) (fd ft us : Nat → Int32), rc_A rc_ky n F T U fc fd ft us → rc_Ok (rc_mY (tp_mv c pr so ta rs sg le gr bd) tp_ph) (rc_wY (tp_wt bd ur) tp_ph) b (h + 1) n F T U → (∀ j, j < b → rc_Dm (rc_mY (tp_mv c pr so ta rs sg le gr bd) tp_ph) F T U j ∧ rc_Dw (rc_wY (tp_wt bd ur) tp_ph) F T j) → T 0 = 0 → J (nI b) (nI (h + 1)) (nI c) fc (tp_I pr) (tp_I so) (tp_I ta) (tp_I rs) (tp_I sg) (tp_I le) (tp_I gr) (tp_I bd) (tp_I ur) ft fd us) :
    ∀ (m i n : Nat) (F T U : Nat → Nat) (fc : Int32) (fd ft us : Nat → Int32), b - i < m → lo ≤ i → i ≤ b → rc_A rc_ky n F T U fc fd ft us → rc_Ok (rc_mY (tp_mv c pr so ta rs sg le gr bd) tp_ph) (rc_wY (tp_wt bd ur) tp_ph) b (h + 1) n F T U → (∀ j, lo ≤ j → j < b → T (F j) = h) → (∀ j, j < b → rc_Dm (rc_mY (tp_mv c pr so ta rs sg le gr bd) tp_ph) F T U j) → (∀ j, j < i → rc_Dw (rc_wY (tp_wt bd ur) tp_ph) F T j) → T 0 = 0 →
    wY_work_95 post J (nI b) (nI h) m (nI i) (nI c) fc (tp_I pr) (tp_I so) (tp_I ta) (tp_I rs) (tp_I sg) (tp_I le) (tp_I gr) (tp_I bd) (tp_I ur) ft fd us := by
  intro m
  induction m with
  | zero => intro i n F T U fc fd ft us h1; omega
  | succ m ih =>
    intro i n F T U fc fd ft us h1 h2 h3 A O eq dm dw t0
    have hbn : b ≤ n := O.2.2.1
    refine pk_le b i (fun z => nm_r (nI_1 h) (p n F T U fc fd ft us A O (fun j hj => ⟨dm j hj, dw j (by omega)⟩) t0)) (fun z => ?_)
    have hF := (O.2.2.2.1 i (by omega)).1
    have hR := (O.2.2.2.1 i (by omega)).2.2
    rw [eq i h2 z] at hR
    rw [nI_clamp (show i < 2 ^ 31 by omega), A.2.1 i (by omega)]
    refine ⟨vp_in_nI (by omega) (by omega), ys_waits G A O hF (eq i h2 z) hR ?_⟩
    intro n' F' T' U' fc fd ft us A' O' L' d'
    refine nm_r (nI_1 i) (ih (i + 1) n' F' T' U' fc fd ft us (by omega) (by omega) (by omega) A' O' (fun j hj hj' => ?_) (fun j hj => rc_Dm_le _ _ O L' (by omega) (dm j hj)) (fun j hj => ?_) ?_)
    · rw [L'.2.1 j (by omega), L'.2.2.1 _ (by rw [eq j hj hj']; omega)]; exact eq j hj hj'
    · by_cases w : j = i
      · intro s' _ w'
        have e1 : F' j = F i := by rw [w]; exact L'.2.1 i (by omega)
        rw [e1] at w' ⊢
        rw [L'.2.2.1 (F i) (by rw [eq i h2 z]; omega), eq i h2 z]
        exact d' s' w'
      · exact rc_Dw_le _ _ O L' (by omega) (dw j (by omega))
    · rw [L'.2.2.1 0 (by omega)]; exact t0
theorem ye_95e {post : SY → Prop} {J : Int32 → Int32 → Int32 → Int32 → (Nat → Int32) → (Nat → Int32) → (Nat → Int32) → (Nat → Int32) → (Nat → Int32) → (Nat → Int32) → (Nat → Int32) → (Nat → Int32) → (Nat → Int32) → (Nat → Int32) → (Nat → Int32) → (Nat → Int32) → Prop} {lo b n : Nat} {F T U : Nat → Nat} {fc : Int32} {fd ft us : Nat → Int32} (G : tp_G c pr so ta rs sg le gr bd ur) (A : rc_A rc_ky n F T U fc fd ft us) (O : rc_Ok (rc_mY (tp_mv c pr so ta rs sg le gr bd) tp_ph) (rc_wY (tp_wt bd ur) tp_ph) lo 20 n F T U) (hb : b ≤ n)
    (p : J (nI b) (nI 21) (nI c) fc (tp_I pr) (tp_I so) (tp_I ta) (tp_I rs) (tp_I sg) (tp_I le) (tp_I gr) (tp_I bd) (tp_I ur) ft fd us) : ∀ (m i : Nat), b - i < m → lo ≤ i → i ≤ b → wY_work_95 post J (nI b) (nI 20) m (nI i) (nI c) fc (tp_I pr) (tp_I so) (tp_I ta) (tp_I rs) (tp_I sg) (tp_I le) (tp_I gr) (tp_I bd) (tp_I ur) ft fd us := by
  have hn := rc_Ok_n _ _ O
  intro m
  induction m with
  | zero => intro i h1; omega
  | succ m ih =>
    intro i h1 h2 h3
    refine pk_le b i (fun z => nm_r (nI_1 20) p) (fun z => ?_)
    have hF := (O.2.2.2.1 i (by omega)).1
    rw [nI_clamp (show i < 2 ^ 31 by omega), A.2.1 i (by omega)]
    exact ⟨vp_in_nI (by omega) (by omega), ys_waits20 G A O hF (O.2.2.2.2.1 i h2 (by omega)) (nm_r (nI_1 i) (ih (i + 1) (by omega) (by omega) (by omega)))⟩
theorem ye_68 {post : SY → Prop} {J : Int32 → Int32 → Int32 → Int32 → (Nat → Int32) → (Nat → Int32) → (Nat → Int32) → (Nat → Int32) → (Nat → Int32) → (Nat → Int32) → (Nat → Int32) → (Nat → Int32) → (Nat → Int32) → (Nat → Int32) → (Nat → Int32) → (Nat → Int32) → Prop} {h lo : Nat} (G : tp_G c pr so ta rs sg le gr bd ur)
    (p : ∀ (n : Nat) (F T U : Nat → Nat) (fd ft us : Nat → Int32), rc_A rc_ky n F T U (nI n) fd ft us → rc_Ok (rc_mY (tp_mv c pr so ta rs sg le gr bd) tp_ph) (rc_wY (tp_wt bd ur) tp_ph) lo h n F T U → (∀ j, j < n → rc_Dm (rc_mY (tp_mv c pr so ta rs sg le gr bd) tp_ph) F T U j) → (∀ j, j < lo → rc_Dw (rc_wY (tp_wt bd ur) tp_ph) F T j) → T 0 = 0 → ∃ n95, wY_work_95 post J (nI n) (nI h) n95 (nI lo) (nI c) (nI n) (tp_I pr) (tp_I so) (tp_I ta) (tp_I rs) (tp_I sg) (tp_I le) (tp_I gr) (tp_I bd) (tp_I ur) ft fd us) :
    ∀ (m i n : Nat) (F T U : Nat → Nat) (fc : Int32) (fd ft us : Nat → Int32), 1024 - i < m → lo ≤ i → i ≤ n → rc_A rc_ky n F T U fc fd ft us → rc_Ok (rc_mY (tp_mv c pr so ta rs sg le gr bd) tp_ph) (rc_wY (tp_wt bd ur) tp_ph) lo h n F T U → (∀ j, j < i → rc_Dm (rc_mY (tp_mv c pr so ta rs sg le gr bd) tp_ph) F T U j) → (∀ j, j < lo → rc_Dw (rc_wY (tp_wt bd ur) tp_ph) F T j) → T 0 = 0 →
    wY_work_68 post J (nI h) (nI lo) m (nI i) (nI c) fc (tp_I pr) (tp_I so) (tp_I ta) (tp_I rs) (tp_I sg) (tp_I le) (tp_I gr) (tp_I bd) (tp_I ur) ft fd us := by
  intro m
  induction m with
  | zero => intro i n F T U fc fd ft us h1; omega
  | succ m ih =>
    intro i n F T U fc fd ft us h1 h2 h3 A O dm dw t0
    have hn := rc_Ok_n _ _ O
    have hfc := A.1
    subst hfc
    refine pk_le n i (fun z => ?_) (fun z => ?_)
    · have ei : i = n := by omega
      subst ei
      exact p i F T U fd ft us A O dm dw t0
    have hF := (O.2.2.2.1 i z).1
    have hR := (O.2.2.2.1 i z).2.2
    have hT : T (F i) = h := O.2.2.2.2.1 i h2 z
    have h20 : h ≤ 20 := O.2.1
    rw [hT] at hR
    rw [nI_clamp (show i < 2 ^ 31 by omega), A.2.1 i z]
    refine ⟨vp_in_nI (by omega) (by omega), ys_moves G A O hF hT hR ?_⟩
    intro n' F' T' U' fc fd ft us A' O' L' d'
    have hl := L'.1
    refine nm_r (nI_1 i) (ih (i + 1) n' F' T' U' fc fd ft us (by omega) (by omega) (by omega) A' O' (fun j hj => ?_) (fun j hj => rc_Dw_le _ _ O L' (by omega) (dw j hj)) ?_)
    · by_cases w : j = i
      · intro e f s' m'
        have e1 : F' j = F i := by rw [w]; exact L'.2.1 i z
        rw [e1] at m' ⊢
        rw [L'.2.2.1 (F i) (by omega), hT]
        exact d' e f s' m'
      · exact rc_Dm_le _ _ O L' (by omega) (dm j (by omega))
    · rw [L'.2.2.1 0 (by omega)]; exact t0
theorem ye_60 {post : SY → Prop} (G : tp_G c pr so ta rs sg le gr bd ur)
    (p : ∀ (lo n : Nat) (F T U : Nat → Nat) (fc : Int32) (fd ft us : Nat → Int32), rc_A rc_ky n F T U fc fd ft us → rc_Ok (rc_mY (tp_mv c pr so ta rs sg le gr bd) tp_ph) (rc_wY (tp_wt bd ur) tp_ph) lo 20 n F T U → rc_Fin (rc_mY (tp_mv c pr so ta rs sg le gr bd) tp_ph) (rc_wY (tp_wt bd ur) tp_ph) T U → post (ys_S c pr so ta rs sg le gr bd ur fc fd ft us)) :
    ∀ (m h lo n : Nat) (F T U : Nat → Nat) (fc : Int32) (fd ft us : Nat → Int32), 21 - h < m → h ≤ 20 → rc_A rc_ky n F T U fc fd ft us → rc_Ok (rc_mY (tp_mv c pr so ta rs sg le gr bd) tp_ph) (rc_wY (tp_wt bd ur) tp_ph) lo h n F T U → (∀ j, j < lo → rc_Dm (rc_mY (tp_mv c pr so ta rs sg le gr bd) tp_ph) F T U j ∧ rc_Dw (rc_wY (tp_wt bd ur) tp_ph) F T j) → T 0 = 0 →
    wY_work_60 post m (nI lo) (nI h) (nI c) fc (tp_I pr) (tp_I so) (tp_I ta) (tp_I rs) (tp_I sg) (tp_I le) (tp_I gr) (tp_I bd) (tp_I ur) ft fd us := by
  intro m
  induction m with
  | zero => intro h lo n F T U fc fd ft us h1; omega
  | succ m ih =>
    intro h lo n F T U fc fd ft us h1 h2 A O d t0
    refine pk_lt 20 h (fun z => absurd z (by omega)) (fun _ => ⟨1025 + 1, ?_⟩)
    refine ye_68 G ?_ (1025 + 1) lo n F T U fc fd ft us (by omega) (Nat.le_refl lo) O.2.2.1 A O (fun j hj => (d j hj).1) (fun j hj => (d j hj).2) t0
    intro n F T U fd ft us A O dm dw t0
    have hn := rc_Ok_n _ _ O
    by_cases z : h = 20
    · subst z
      obtain ⟨m', rfl⟩ : ∃ m', m = m' + 1 := ⟨m - 1, by omega⟩
      refine ⟨n + 1, ye_95e G A O (Nat.le_refl n) (br_t (by decide) (p lo n F T U _ _ _ _ A O ?_)) (n + 1) lo (by omega) (Nat.le_refl lo) O.2.2.1⟩
      refine rc_fin _ _ (fun e f s s' _ mm => mm.1) (fun s s' _ w => w.1) O t0 (fun i hi => ⟨dm i hi, ?_⟩)
      by_cases w : i < lo
      · exact dw i w
      · intro s' h' _
        rw [O.2.2.2.2.1 i (by omega) hi] at h'
        omega
    · refine ⟨n + 1, ye_95 (lo := lo) G (by omega) hn ?_ (n + 1) lo n F T U _ fd ft us (by omega) (Nat.le_refl lo) O.2.2.1 A (rc_next _ _ O (by omega)) (fun j h1 h2 => O.2.2.2.2.1 j h1 h2) dm dw t0⟩
      intro n' F' T' U' fc fd ft us A' O' d' t'
      exact ih (h + 1) n n' F' T' U' fc fd ft us (by omega) (by omega) A' O' d' t'
theorem ye_25 {post : SY → Prop} (G : tp_G c pr so ta rs sg le gr bd ur) {fc : Int32} {fd ft : Nat → Int32} (hf : ∀ s, s < 1024 → ft s = nI 21)
    (p : ∀ (lo n : Nat) (F T U : Nat → Nat) (fc : Int32) (fd ft us : Nat → Int32), rc_A rc_ky n F T U fc fd ft us → rc_Ok (rc_mY (tp_mv c pr so ta rs sg le gr bd) tp_ph) (rc_wY (tp_wt bd ur) tp_ph) lo 20 n F T U → rc_Fin (rc_mY (tp_mv c pr so ta rs sg le gr bd) tp_ph) (rc_wY (tp_wt bd ur) tp_ph) T U → post (ys_S c pr so ta rs sg le gr bd ur fc fd ft us)) :
    ∀ (m i : Nat) (us : Nat → Int32), 12 - i < m → i ≤ 12 → (∀ e, e < i → us e = nI 21) → wY_work_25 post (nI c) fc m (nI i) (tp_I pr) (tp_I so) (tp_I ta) (tp_I rs) (tp_I sg) (tp_I le) (tp_I gr) (tp_I bd) (tp_I ur) ft fd us := by
  intro m
  induction m with
  | zero => intro i us h1; omega
  | succ m ih =>
    intro i us h1 h2 d
    refine pk_le 12 i (fun z => ?_) (fun z => ?_)
    · refine ys_meet (n := 0) (F := fun _ => 0) (T := fun _ => 21) (U := fun _ => 21) (lo := 0) (q := 0) (h := 0) G ⟨rfl, fun i hi => absurd hi (by omega), fun s hs => hf s hs, fun e he => d e (by omega)⟩ (rc_begin _ _ (fun _ _ => rfl) (fun _ => rfl)) (by omega) (fun _ => rc_R0 _ _) ?_
      intro n' F' T' U' fc fd ft us A' O' L' d'
      have k0 : tp_kb bd (tp_ph 0) := ⟨⟨Nat.zero_le _, Nat.zero_le _⟩, ⟨Nat.zero_le _, Nat.zero_le _⟩⟩
      exact ⟨21 + 1, ye_60 G p (21 + 1) 0 0 n' F' T' U' fc fd ft us (by omega) (by omega) A' O' (fun j hj => absurd hj (by omega)) (by have : T' 0 ≤ 0 := d' k0; omega)⟩
    · rw [nI_clamp (show i < 2 ^ 31 by omega)]
      refine ⟨vp_in_nI z (by omega), nm_e (nm_r (nI_1 i) (ih (i + 1) _ (by omega) (by omega) (fun e he => ?_)))⟩
      by_cases w : e = i
      · rw [w, pk_us]; rfl
      · rw [pk_un w]; exact d e (by omega)
theorem ye_2 {post : SY → Prop} (G : tp_G c pr so ta rs sg le gr bd ur) {fc : Int32} {fd us : Nat → Int32}
    (p : ∀ (lo n : Nat) (F T U : Nat → Nat) (fc : Int32) (fd ft us : Nat → Int32), rc_A rc_ky n F T U fc fd ft us → rc_Ok (rc_mY (tp_mv c pr so ta rs sg le gr bd) tp_ph) (rc_wY (tp_wt bd ur) tp_ph) lo 20 n F T U → rc_Fin (rc_mY (tp_mv c pr so ta rs sg le gr bd) tp_ph) (rc_wY (tp_wt bd ur) tp_ph) T U → post (ys_S c pr so ta rs sg le gr bd ur fc fd ft us)) :
    ∀ (m i : Nat) (ft : Nat → Int32), 1024 - i < m → i ≤ 1024 → (∀ e, e < i → ft e = nI 21) → wY_work_2 post (nI c) fc m (nI i) (tp_I pr) (tp_I so) (tp_I ta) (tp_I rs) (tp_I sg) (tp_I le) (tp_I gr) (tp_I bd) (tp_I ur) ft fd us := by
  intro m
  induction m with
  | zero => intro i ft h1; omega
  | succ m ih =>
    intro i ft h1 h2 d
    refine pk_le 1024 i (fun z => ⟨12 + 1, ye_25 G (fun s hs => d s (by omega)) p (12 + 1) 0 us (by omega) (by omega) (fun e he => absurd he (by omega))⟩) (fun z => ?_)
    rw [nI_clamp (show i < 2 ^ 31 by omega)]
    refine ⟨vp_in_nI z (by omega), nm_e (nm_r (nI_1 i) (ih (i + 1) _ (by omega) (by omega) (fun e he => ?_)))⟩
    by_cases w : e = i
    · rw [w, pk_us]; rfl
    · rw [pk_un w]; exact d e (by omega)
theorem ye_work {post : SY → Prop} (G : tp_G c pr so ta rs sg le gr bd ur) {fc : Int32} {fd ft us : Nat → Int32}
    (p : ∀ (lo n : Nat) (F T U : Nat → Nat) (fc : Int32) (fd ft us : Nat → Int32), rc_A rc_ky n F T U fc fd ft us → rc_Ok (rc_mY (tp_mv c pr so ta rs sg le gr bd) tp_ph) (rc_wY (tp_wt bd ur) tp_ph) lo 20 n F T U → rc_Fin (rc_mY (tp_mv c pr so ta rs sg le gr bd) tp_ph) (rc_wY (tp_wt bd ur) tp_ph) T U → post (ys_S c pr so ta rs sg le gr bd ur fc fd ft us)) : wpY_work post (ys_S c pr so ta rs sg le gr bd ur fc fd ft us) :=
  ⟨1024 + 1, ye_2 G p (1024 + 1) 0 ft (by omega) (by omega) (fun e he => absurd he (by omega))⟩
end
end
section
/-! the calls that change the table -/
theorem bo_0 : vp_nar .boolean 0 = nI 0 := by rfl
theorem bo_1 : vp_nar .boolean 1 = nI 1 := by rfl
/-- x is a number below n -/
def vr_N (x : Int32) (n : Nat) : Prop := ∃ j, j < n ∧ x = nI j
theorem vr_ge {x N : Int32} {A B : Prop} (n : Nat) (a : ¬ vr_N x n → A) (b : vr_N x n → B) (hN : N = nI n := by rfl) (hn : n < 2 ^ 31 := by omega) : (x < 0 → A) ∧ (¬ x < 0 → ((N ≤ x → A) ∧ (¬ N ≤ x → B))) := by
  subst hN
  refine br_c (fun z => a ?_) (fun z => br_c (fun w => a ?_) (fun w => b ?_))
  · rintro ⟨j, hj, rfl⟩
    exact nI_pos (by omega) z
  · rintro ⟨j, hj, rfl⟩
    rw [nI_leI hn (by omega)] at w
    omega
  · obtain ⟨j, hj, rfl⟩ := nI_of z
    rw [nI_leI hn hj] at w
    exact ⟨j, by omega, rfl⟩
theorem vr_le {x M : Int32} {A B : Prop} (m : Nat) (a : ¬ vr_N x (m + 1) → A) (b : vr_N x (m + 1) → B) (hN : M = nI m := by rfl) (hn : m + 1 < 2 ^ 31 := by omega) : (x < 0 → A) ∧ (¬ x < 0 → ((x ≤ M → B) ∧ (¬ x ≤ M → A))) := by
  subst hN
  refine br_c (fun z => a ?_) (fun z => br_c (fun w => b ?_) (fun w => a ?_))
  · rintro ⟨j, hj, rfl⟩
    exact nI_pos (by omega) z
  · obtain ⟨j, hj, rfl⟩ := nI_of z
    rw [nI_leI hj (by omega)] at w
    exact ⟨j, by omega, rfl⟩
  · rintro ⟨j, hj, rfl⟩
    rw [nI_leI (by omega) (by omega)] at w
    omega
theorem vr_lt {x M : Int32} {A B : Prop} (m : Nat) (a : ¬ vr_N x (m + 1) → A) (b : vr_N x (m + 1) → B) (hN : M = nI m := by rfl) (hn : m + 1 < 2 ^ 31 := by omega) : (x < 0 → A) ∧ (¬ x < 0 → ((M < x → A) ∧ (¬ M < x → B))) := by
  subst hN
  refine br_c (fun z => a ?_) (fun z => br_c (fun w => a ?_) (fun w => b ?_))
  · rintro ⟨j, hj, rfl⟩
    exact nI_pos (by omega) z
  · rintro ⟨j, hj, rfl⟩
    rw [nI_ltI (by omega) (by omega)] at w
    omega
  · obtain ⟨j, hj, rfl⟩ := nI_of z
    rw [nI_ltI (by omega) hj] at w
    exact ⟨j, by omega, rfl⟩
theorem rc_up_lt {f : Nat → Nat} {k v b : Nat} (hf : ∀ j, f j < b) (hv : v < b) : ∀ j, rc_up f k v j < b := by
  intro j
  unfold rc_up
  exact bx_ite hv (hf j)
section
variable {c : Nat} {pr so ta rs sg le gr bd ur : Nat → Nat}
variable {n : Int32} {fd ft us : Nat → Int32}
theorem xm_isBit {post : Int32 → Prop} {x : Int32} (h1 : vr_N x 2 → post 1) (h0 : ¬ vr_N x 2 → post 0) : wpX_isBit post (xs_S c pr so ta rs sg le gr bd ur n fd ft us) x := by
  refine br_c (fun z => h1 ⟨0, by omega, z⟩) (fun z => br_c (fun w => h1 ⟨1, by omega, w⟩) (fun w => h0 ?_))
  rintro ⟨j, hj, rfl⟩
  match j, hj with
  | 0, _ => exact z rfl
  | 1, _ => exact w rfl
theorem xm_isEdge {post : Int32 → Prop} {x : Int32} (G : tp_G c pr so ta rs sg le gr bd ur) (h1 : vr_N x c → post 1) (h0 : ¬ vr_N x c → post 0) : wpX_isEdge post (xs_S c pr so ta rs sg le gr bd ur n fd ft us) x := vr_ge c h0 h1 rfl (by have := G.1; omega)
theorem xm_isValue {post : Int32 → Prop} {x : Int32} (h1 : vr_N x 7 → post 1) (h0 : ¬ vr_N x 7 → post 0) : wpX_isValue post (xs_S c pr so ta rs sg le gr bd ur n fd ft us) x := vr_lt 6 h0 h1
theorem xm_isVU {post : Int32 → Prop} {x : Int32} (h1 : vr_N x 8 → post 1) (h0 : ¬ vr_N x 8 → post 0) : wpX_isValueOrUnbounded post (xs_S c pr so ta rs sg le gr bd ur n fd ft us) x := vr_lt 7 h0 h1
theorem xm_isPlace {post : Int32 → Prop} {x : Int32} (h1 : vr_N x 8 → post 1) (h0 : ¬ vr_N x 8 → post 0) : wpX_isPlace post (xs_S c pr so ta rs sg le gr bd ur n fd ft us) x := vr_ge 8 h0 h1
theorem xm_isPair {post : Int32 → Prop} {x : Int32} (h1 : vr_N x 16 → post 1) (h0 : ¬ vr_N x 16 → post 0) : wpX_isPair post (xs_S c pr so ta rs sg le gr bd ur n fd ft us) x := vr_ge 16 h0 h1
theorem ym_isEdge {post : Int32 → Prop} {x : Int32} (G : tp_G c pr so ta rs sg le gr bd ur) (h1 : vr_N x c → post 1) (h0 : ¬ vr_N x c → post 0) : wpY_isEdge post (ys_S c pr so ta rs sg le gr bd ur n fd ft us) x := vr_ge c h0 h1 rfl (by have := G.1; omega)
theorem ym_badPair {post : Int32 → Prop} {x : Int32} (h1 : vr_N x 16 → post 0) (h0 : ¬ vr_N x 16 → post 1) : wpY_badPair post (ys_S c pr so ta rs sg le gr bd ur n fd ft us) x := vr_le 15 h0 h1
end
/-- the same table on both sides; what the last search left is free -/
def i_Rel (_k : Nat) (u : SX) (v : SY) : Prop := ∃ (c : Nat) (pr so ta rs sg le gr bd ur : Nat → Nat) (n n' : Int32) (fd ft us fd' ft' us' : Nat → Int32), tp_G c pr so ta rs sg le gr bd ur ∧ u = xs_S c pr so ta rs sg le gr bd ur n fd ft us ∧ v = ys_S c pr so ta rs sg le gr bd ur n' fd' ft' us'
theorem i_up {k : Nat} {u : SX} {v : SY} (h : i_Rel k u v) : i_Rel (k + 5) u v := h
/-! the constructors -/
def in_b (i : Nat) : Nat → Nat := fun j => if j < i then 7 else 0
theorem in_b_up (i : Nat) : upd (tp_I (in_b i)) i 7 = tp_I (in_b (i + 1)) := by
  rw [show (7 : Int32) = nI 7 from rfl, tp_I_up]
  refine congrArg tp_I ?_
  funext j
  unfold rc_up in_b
  by_cases z : j = i
  · rw [if_pos z, if_pos (by omega)]
  · rw [if_neg z]
    by_cases w : j < i
    · rw [if_pos w, if_pos (by omega)]
    · rw [if_neg w, if_neg (by omega)]
theorem in_x {post : SX → Prop} {a b : Int32} {a1 a2 a3 a4 a5 a6 a7 a9 a10 a11 a12 : Nat → Int32} (p : post (a, b, a1, a2, a3, a4, a5, a6, a7, tp_I (in_b 16), a9, a10, a11, a12)) :
    ∀ m i, 16 - i < m → i ≤ 16 → wX_init_114 post a b m (nI i) a1 a2 a3 a4 a5 a6 a7 (tp_I (in_b i)) a9 a10 a11 a12 := by
  intro m
  induction m with
  | zero => intro i h; omega
  | succ m ih =>
    intro i h1 h2
    refine pk_le 16 i (fun z => ?_) (fun z => ?_)
    · have e : i = 16 := by omega
      subst e
      exact p
    · rw [nI_clamp (show i < 2 ^ 31 by omega)]
      exact ⟨vp_in_nI z (by omega), nm_r (in_b_up i) (nm_r (nI_1 i) (ih (i + 1) (by omega) (by omega)))⟩
theorem in_y {post : SY → Prop} {a b : Int32} {a1 a2 a3 a4 a5 a6 a7 a9 a10 a11 a12 : Nat → Int32} (p : post (a, b, a1, a2, a3, a4, a5, a6, a7, tp_I (in_b 16), a9, a10, a11, a12)) :
    ∀ m i, 16 - i < m → i ≤ 16 → wY_init_104 post a b m (nI i) a1 a2 a3 a4 a5 a6 a7 (tp_I (in_b i)) a9 a10 a11 a12 := by
  intro m
  induction m with
  | zero => intro i h; omega
  | succ m ih =>
    intro i h1 h2
    refine pk_le 16 i (fun z => ?_) (fun z => ?_)
    · have e : i = 16 := by omega
      subst e
      exact p
    · rw [nI_clamp (show i < 2 ^ 31 by omega)]
      exact ⟨vp_in_nI z (by omega), nm_r (in_b_up i) (nm_r (nI_1 i) (ih (i + 1) (by omega) (by omega)))⟩
theorem in_b_0 : tp_I (in_b 0) = fun _ => 0 := by
  funext j
  show nI (if j < 0 then 7 else 0) = 0
  rw [if_neg (by omega)]
  rfl
theorem i_vc0 : wpX_init (fun u => wpY_init (fun v => i_Rel 0 u v)) := by
  refine ⟨16 + 1, ?_⟩
  rw [← in_b_0]
  refine in_x ?_ (16 + 1) 0 (by omega) (by omega)
  refine ⟨16 + 1, ?_⟩
  rw [← in_b_0]
  refine in_y ?_ (16 + 1) 0 (by omega) (by omega)
  refine ⟨0, in_b 0, in_b 0, in_b 0, in_b 0, in_b 0, in_b 0, in_b 0, in_b 16, in_b 0, 0, 0, tp_I (in_b 0), tp_I (in_b 0), tp_I (in_b 0), tp_I (in_b 0), tp_I (in_b 0), tp_I (in_b 0), ?_, rfl, rfl⟩
  have z : ∀ b, 0 < b → ∀ j, in_b 0 j < b := fun b hb j => by unfold in_b; rw [if_neg (by omega)]; exact hb
  refine ⟨by omega, z _ (by omega), z _ (by omega), z _ (by omega), z _ (by omega), z _ (by omega), z _ (by omega), z _ (by omega), fun j => ?_, z _ (by omega)⟩
  unfold in_b
  exact bx_ite (by omega) (by omega)
theorem i_vc_edges {k : Nat} {u : SX} {v : SY} (I : i_Rel k u v) (hk : k + 5 ≤ 2560) : wpX_edges (fun r => wpY_edges (fun r' => r' = r ∧ i_Rel (k + 5) u v) v) u := by
  obtain ⟨c, pr, so, ta, rs, sg, le, gr, bd, ur, n, n', fd, ft, us, fd', ft', us', G, rfl, rfl⟩ := I
  exact ⟨rfl, c, pr, so, ta, rs, sg, le, gr, bd, ur, n, n', fd, ft, us, fd', ft', us', G, rfl, rfl⟩
theorem i_vc_bound {k : Nat} {u : SX} {v : SY} (I : i_Rel k u v) (hk : k + 5 ≤ 2560) (v1 : Int32) (v2 : Int32) (v3 : Int32) : wpX_bound (fun r u' => wpY_bound (fun r' v' => r' = r ∧ i_Rel (k + 5) u' v') v v1 v2 v3) u v1 v2 v3 := by
  obtain ⟨c, pr, so, ta, rs, sg, le, gr, bd, ur, n, n', fd, ft, us, fd', ft', us', G, rfl, rfl⟩ := I
  have same : i_Rel (k + 5) (xs_S c pr so ta rs sg le gr bd ur n fd ft us) (ys_S c pr so ta rs sg le gr bd ur n' fd' ft' us') := ⟨c, pr, so, ta, rs, sg, le, gr, bd, ur, n, n', fd, ft, us, fd', ft', us', G, rfl, rfl⟩
  have Y0 : ¬ (vr_N v1 8 ∧ vr_N v2 2 ∧ vr_N v3 8) → wpY_bound (fun r' v' => r' = -1 ∧ i_Rel (k + 5) (xs_S c pr so ta rs sg le gr bd ur n fd ft us) v') (ys_S c pr so ta rs sg le gr bd ur n' fd' ft' us') v1 v2 v3 := fun h =>
    vr_lt 7 (fun _ => ⟨rfl, same⟩) (fun a => vr_lt 1 (fun _ => ⟨rfl, same⟩) (fun b => vr_le 7 (fun _ => ⟨rfl, same⟩) (fun d => absurd ⟨a, b, d⟩ h)))
  unfold wpX_bound
  dsimp only
  refine xm_isPlace (fun a => br_f (by decide) ?_) (fun a => br_t rfl (Y0 (fun h => a h.1)))
  refine xm_isBit (fun b => br_f (by decide) ?_) (fun b => br_t rfl (Y0 (fun h => b h.2.1)))
  refine xm_isVU (fun d => br_f (by decide) ?_) (fun d => br_t rfl (Y0 (fun h => d h.2.2)))
  have aa := a
  have bb := b
  have dd := d
  obtain ⟨a, ha, rfl⟩ := a
  obtain ⟨b, hb, rfl⟩ := b
  obtain ⟨d, hd, rfl⟩ := d
  rw [bx_2, nI_clamp (by omega)]
  have vi : vp_in (nI (2 * a + b)) 16 := vp_in_nI (by omega) (by omega)
  refine ⟨vi, nm_e ⟨vi, nm_r (tp_I_up bd _ _) ?_⟩⟩
  refine vr_lt 7 (fun h => absurd aa h) (fun _ => vr_lt 1 (fun h => absurd bb h) (fun _ => vr_le 7 (fun h => absurd dd h) (fun _ => ?_)))
  rw [bx_2, nI_clamp (by omega)]
  refine ⟨vi, nm_e ⟨vi, nm_r (tp_I_up bd _ _) ⟨rfl, c, pr, so, ta, rs, sg, le, gr, rc_up bd (2 * a + b) d, ur, n, n', fd, ft, us, fd', ft', us', ?_, rfl, rfl⟩⟩⟩
  obtain ⟨g1, g2, g3, g4, g5, g6, g7, g8, g9, g10⟩ := G
  exact ⟨g1, g2, g3, g4, g5, g6, g7, g8, rc_up_lt g9 hd, g10⟩
theorem i_vc_urgent {k : Nat} {u : SX} {v : SY} (I : i_Rel k u v) (hk : k + 5 ≤ 2560) (v1 : Int32) (v2 : Int32) : wpX_urgent (fun r u' => wpY_urgent (fun r' v' => r' = r ∧ i_Rel (k + 5) u' v') v v1 v2) u v1 v2 := by
  obtain ⟨c, pr, so, ta, rs, sg, le, gr, bd, ur, n, n', fd, ft, us, fd', ft', us', G, rfl, rfl⟩ := I
  have same : i_Rel (k + 5) (xs_S c pr so ta rs sg le gr bd ur n fd ft us) (ys_S c pr so ta rs sg le gr bd ur n' fd' ft' us') := ⟨c, pr, so, ta, rs, sg, le, gr, bd, ur, n, n', fd, ft, us, fd', ft', us', G, rfl, rfl⟩
  unfold wpX_urgent
  dsimp only
  refine xm_isPlace (fun a => br_f (by decide) ?_) (fun a => br_t rfl (vr_le 7 (fun _ => ⟨rfl, same⟩) (fun h => absurd h a)))
  have aa := a
  obtain ⟨a, ha, rfl⟩ := a
  have vi : vp_in (nI a) 8 := vp_in_nI ha (by omega)
  have cl : (nI a).toNatClampNeg = a := nI_clamp (by omega)
  have fin : ∀ z, z < 2 → i_Rel (k + 5) (xs_S c pr so ta rs sg le gr bd (rc_up ur a z) n fd ft us) (ys_S c pr so ta rs sg le gr bd (rc_up ur a z) n' fd' ft' us') := by
    intro z hz
    refine ⟨c, pr, so, ta, rs, sg, le, gr, bd, rc_up ur a z, n, n', fd, ft, us, fd', ft', us', ?_, rfl, rfl⟩
    obtain ⟨g1, g2, g3, g4, g5, g6, g7, g8, g9, g10⟩ := G
    exact ⟨g1, g2, g3, g4, g5, g6, g7, g8, g9, rc_up_lt g10 hz⟩
  have u0 : upd (tp_I ur) (nI a).toNatClampNeg (vp_nar .boolean 0) = tp_I (rc_up ur a 0) := by rw [cl, bo_0]; exact tp_I_up ur a 0
  have u1 : upd (tp_I ur) (nI a).toNatClampNeg (vp_nar .boolean 1) = tp_I (rc_up ur a 1) := by rw [cl, bo_1]; exact tp_I_up ur a 1
  have X : ∀ (r : Int32) (post : Int32 → SX → Prop), (∀ z, z < 2 → (z = 0 ↔ v2 = 0) → post r (xs_S c pr so ta rs sg le gr bd (rc_up ur a z) n fd ft us)) → wX_urgent_24 post (nI a) v2 r (nI c) n (tp_I pr) (tp_I so) (tp_I ta) (tp_I rs) (tp_I sg) (tp_I le) (tp_I gr) (tp_I bd) (tp_I ur) fd ft us := by
    intro r post p
    refine br_c (fun z => ⟨vi, nm_r u0 (p 0 (by omega) ⟨fun _ => z, fun _ => rfl⟩)⟩) (fun z => ⟨vi, nm_r u1 (p 1 (by omega) ⟨fun h => absurd h (by omega), fun h => absurd h z⟩)⟩)
  have Y : ∀ (r : Int32) (post : Int32 → SY → Prop), (∀ z, z < 2 → (z = 0 ↔ v2 = 0) → post r (ys_S c pr so ta rs sg le gr bd (rc_up ur a z) n' fd' ft' us')) → wY_urgent_26 post (nI a) v2 r (nI c) n' (tp_I pr) (tp_I so) (tp_I ta) (tp_I rs) (tp_I sg) (tp_I le) (tp_I gr) (tp_I bd) (tp_I ur) ft' fd' us' := by
    intro r post p
    refine br_c (fun z => ⟨vi, nm_r u0 (p 0 (by omega) ⟨fun _ => z, fun _ => rfl⟩)⟩) (fun z => ⟨vi, nm_r u1 (p 1 (by omega) ⟨fun h => absurd h (by omega), fun h => absurd h z⟩)⟩)
  have one : ∀ z w : Nat, z < 2 → w < 2 → (z = 0 ↔ v2 = 0) → (w = 0 ↔ v2 = 0) → w = z := by
    intro z w hz hw h1 h2
    by_cases q : v2 = 0
    · rw [h1.mpr q, h2.mpr q]
    · have q1 : ¬ z = 0 := fun e => q (h1.mp e)
      have q2 : ¬ w = 0 := fun e => q (h2.mp e)
      omega
  refine ⟨vi, br_c (fun s => X 0 _ ?_) (fun s => X 1 _ ?_)⟩
  · intro z hz ez
    refine vr_le 7 (fun h => absurd aa h) (fun _ => ⟨vi, br_t s (Y 0 _ (fun w hw ew => ⟨rfl, ?_⟩))⟩)
    rw [one z w hz hw ez ew]; exact fin z hz
  · intro z hz ez
    refine vr_le 7 (fun h => absurd aa h) (fun _ => ⟨vi, br_f s (Y 1 _ (fun w hw ew => ⟨rfl, ?_⟩))⟩)
    rw [one z w hz hw ez ew]; exact fin z hz
theorem i_vc_guard {k : Nat} {u : SX} {v : SY} (I : i_Rel k u v) (hk : k + 5 ≤ 2560) (v1 : Int32) (v2 : Int32) (v3 : Int32) (v4 : Int32) : wpX_guard (fun r u' => wpY_guard (fun r' v' => r' = r ∧ i_Rel (k + 5) u' v') v v1 v2 v3 v4) u v1 v2 v3 v4 := by
  obtain ⟨c, pr, so, ta, rs, sg, le, gr, bd, ur, n, n', fd, ft, us, fd', ft', us', G, rfl, rfl⟩ := I
  have c12 := G.1
  have same : i_Rel (k + 5) (xs_S c pr so ta rs sg le gr bd ur n fd ft us) (ys_S c pr so ta rs sg le gr bd ur n' fd' ft' us') := ⟨c, pr, so, ta, rs, sg, le, gr, bd, ur, n, n', fd, ft, us, fd', ft', us', G, rfl, rfl⟩
  have Y0 : vr_N v1 c → ¬ (vr_N v2 2 ∧ vr_N v3 7 ∧ vr_N v4 8) → wpY_guard (fun r' v' => r' = -1 ∧ i_Rel (k + 5) (xs_S c pr so ta rs sg le gr bd ur n fd ft us) v') (ys_S c pr so ta rs sg le gr bd ur n' fd' ft' us') v1 v2 v3 v4 := by
    intro e h
    unfold wpY_guard
    exact ym_isEdge G (fun _ => br_f (by decide) (vr_lt 1 (fun _ => ⟨rfl, same⟩) (fun a => vr_lt 6 (fun _ => ⟨rfl, same⟩) (fun b => vr_le 7 (fun _ => ⟨rfl, same⟩) (fun d => absurd ⟨a, b, d⟩ h))))) (fun h => absurd e h)
  unfold wpX_guard
  dsimp only
  refine xm_isEdge G (fun e => br_f (by decide) ?_) (fun e => br_t rfl ?_)
  rotate_left
  · unfold wpY_guard
    exact ym_isEdge G (fun h => absurd h e) (fun _ => br_t rfl ⟨rfl, same⟩)
  refine xm_isBit (fun a => br_f (by decide) ?_) (fun a => br_t rfl (Y0 e (fun h => a h.1)))
  refine xm_isValue (fun b => br_f (by decide) ?_) (fun b => br_t rfl (Y0 e (fun h => b h.2.1)))
  refine xm_isVU (fun d => br_f (by decide) ?_) (fun d => br_t rfl (Y0 e (fun h => d h.2.2)))
  have ee := e
  have aa := a
  have bb := b
  have dd := d
  obtain ⟨e, he, rfl⟩ := e
  obtain ⟨a, ha, rfl⟩ := a
  obtain ⟨b, hb, rfl⟩ := b
  obtain ⟨d, hd, rfl⟩ := d
  rw [bx_2, nI_clamp (by omega)]
  have vi : vp_in (nI (2 * e + a)) 24 := vp_in_nI (by omega) (by omega)
  refine ⟨vi, nm_r (tp_I_up le _ _) ⟨vi, nm_r (tp_I_up gr _ _) ?_⟩⟩
  unfold wpY_guard
  refine ym_isEdge G (fun _ => br_f (by decide) (vr_lt 1 (fun h => absurd aa h) (fun _ => vr_lt 6 (fun h => absurd bb h) (fun _ => vr_le 7 (fun h => absurd dd h) (fun _ => ?_))))) (fun h => absurd ee h)
  rw [bx_2, nI_clamp (by omega)]
  refine ⟨vi, nm_r (tp_I_up le _ _) ⟨vi, nm_r (tp_I_up gr _ _) ⟨rfl, c, pr, so, ta, rs, sg, rc_up le (2 * e + a) b, rc_up gr (2 * e + a) d, bd, ur, n, n', fd, ft, us, fd', ft', us', ?_, rfl, rfl⟩⟩⟩
  obtain ⟨g1, g2, g3, g4, g5, g6, g7, g8, g9, g10⟩ := G
  exact ⟨g1, g2, g3, g4, g5, g6, rc_up_lt g7 hb, rc_up_lt g8 hd, g9, g10⟩
end
section
/-! edge and drop -/
theorem ed_u {f : Nat → Nat} {k v : Nat} {x : Int32} (hk : k < 2 ^ 31) (e : x = nI v) : upd (tp_I f) (nI k).toNatClampNeg x = tp_I (rc_up f k v) := by
  rw [nI_clamp hk, e, tp_I_up]
theorem ed_x106 {post : Int32 → SX → Prop} {c k m : Nat} {le gr : Nat → Nat} {n : Int32} {a1 a2 a3 a4 a5 a8 a9 fd ft us : Nat → Int32} (hc : c < 12) (hk : k < 2)
    (p : wX_edge_106 post (nI c) (nI c) n m (nI (k + 1)) a1 a2 a3 a4 a5 (tp_I (rc_up le (2 * c + k) 0)) (tp_I (rc_up gr (2 * c + k) 7)) a8 a9 fd ft us) :
    wX_edge_106 post (nI c) (nI c) n (m + 1) (nI k) a1 a2 a3 a4 a5 (tp_I le) (tp_I gr) a8 a9 fd ft us := by
  have vi : vp_in (nI (2 * c + k)) 24 := vp_in_nI (by omega) (by omega)
  refine pk_le 2 k (fun z => by omega) (fun _ => ?_)
  rw [bx_2]
  exact ⟨vi, nm_r (ed_u (v := 0) (by omega) rfl) ⟨vi, nm_r (ed_u (v := 7) (by omega) rfl) (nm_r (nI_1 k) p)⟩⟩
theorem ed_y113 {post : Int32 → SY → Prop} {c k m : Nat} {le gr : Nat → Nat} {n : Int32} {a1 a2 a3 a4 a5 a8 a9 fd ft us : Nat → Int32} (hc : c < 12) (hk : k < 2)
    (p : wY_edge_113 post (nI c) n m (nI (k + 1)) a1 a2 a3 a4 a5 (tp_I (rc_up le (2 * c + k) 0)) (tp_I (rc_up gr (2 * c + k) 7)) a8 a9 fd ft us) :
    wY_edge_113 post (nI c) n (m + 1) (nI k) a1 a2 a3 a4 a5 (tp_I le) (tp_I gr) a8 a9 fd ft us := by
  have vi : vp_in (nI (2 * c + k)) 24 := vp_in_nI (by omega) (by omega)
  refine pk_le 2 k (fun z => by omega) (fun _ => ?_)
  rw [bx_2]
  exact ⟨vi, nm_r (ed_u (v := 0) (by omega) rfl) ⟨vi, nm_r (ed_u (v := 7) (by omega) rfl) (nm_r (nI_1 k) p)⟩⟩
theorem i_vc_edge {k : Nat} {u : SX} {v : SY} (I : i_Rel k u v) (hk : k + 5 ≤ 2560) (v1 : Int32) (v2 : Int32) (v3 : Int32) (v4 : Int32) : wpX_edge (fun r u' => wpY_edge (fun r' v' => r' = r ∧ i_Rel (k + 5) u' v') v v1 v2 v3 v4) u v1 v2 v3 v4 := by
  obtain ⟨c, pr, so, ta, rs, sg, le, gr, bd, ur, n, n', fd, ft, us, fd', ft', us', G, rfl, rfl⟩ := I
  have c12 := G.1
  have same : i_Rel (k + 5) (xs_S c pr so ta rs sg le gr bd ur n fd ft us) (ys_S c pr so ta rs sg le gr bd ur n' fd' ft' us') := ⟨c, pr, so, ta, rs, sg, le, gr, bd, ur, n, n', fd, ft, us, fd', ft', us', G, rfl, rfl⟩
  have Y0 : ¬ (vr_N v1 2 ∧ vr_N v2 16 ∧ vr_N v3 4 ∧ vr_N v4 5) → wpY_edge (fun r' v' => r' = -1 ∧ i_Rel (k + 5) (xs_S c pr so ta rs sg le gr bd ur n fd ft us) v') (ys_S c pr so ta rs sg le gr bd ur n' fd' ft' us') v1 v2 v3 v4 := fun h =>
    vr_lt 1 (fun _ => ⟨rfl, same⟩) (fun a => vr_le 15 (fun _ => ⟨rfl, same⟩) (fun b => vr_lt 3 (fun _ => ⟨rfl, same⟩) (fun d => vr_le 4 (fun _ => ⟨rfl, same⟩) (fun g => absurd ⟨a, b, d, g⟩ h))))
  unfold wpX_edge
  dsimp only
  refine xm_isBit (fun a => br_f (by decide) ?_) (fun a => br_t rfl (Y0 (fun h => a h.1)))
  refine vr_lt 15 (fun b => Y0 (fun h => b h.2.1)) (fun b => ?_)
  refine vr_lt 3 (fun d => Y0 (fun h => d h.2.2.1)) (fun d => ?_)
  refine vr_le 4 (fun g => Y0 (fun h => g h.2.2.2)) (fun g => ?_)
  refine pk_lt c 12 (fun hc => ?_) (fun hc => vr_lt 1 (fun h => absurd a h) (fun _ => vr_le 15 (fun h => absurd b h) (fun _ => vr_lt 3 (fun h => absurd d h) (fun _ => vr_le 4 (fun h => absurd g h) (fun _ => pk_eq c 12 (fun _ => ⟨rfl, same⟩) (fun h => absurd h (by omega)))))))
  have aa := a
  have bb := b
  have dd := d
  have gg := g
  obtain ⟨a, ha, rfl⟩ := a
  obtain ⟨b, hb, rfl⟩ := b
  obtain ⟨d, hd, rfl⟩ := d
  obtain ⟨g, hg, rfl⟩ := g
  have vi : vp_in (nI c) 12 := vp_in_nI hc (by omega)
  have e4 : nI b / 4 = nI (b / 4) := by rw [show (4 : Int32) = nI 4 from rfl, pk_div (by omega) (by omega) (by omega)]
  have l31 : c < 2 ^ 31 := by omega
  refine ⟨vi, nm_r (ed_u l31 rfl) ⟨vi, nm_r (ed_u l31 (pk_andN (by omega) 2 (by decide))) ⟨by decide, vi, nm_r (ed_u l31 e4) ⟨vi, nm_r (ed_u l31 rfl) ⟨vi, nm_r (ed_u l31 rfl) ⟨0 + 1 + 1 + 1, ?_⟩⟩⟩⟩⟩⟩
  refine ed_x106 (k := 0) hc (by omega) ?_
  refine ed_x106 (k := 1) hc (by omega) ?_
  refine br_t (by decide) (nm_r (nI_1 c) ?_)
  refine vr_lt 1 (fun h => absurd aa h) (fun _ => vr_le 15 (fun h => absurd bb h) (fun _ => vr_lt 3 (fun h => absurd dd h) (fun _ => vr_le 4 (fun h => absurd gg h) (fun _ => pk_eq c 12 (fun h => absurd h (by omega)) (fun _ => ?_)))))
  have e5 : nI b - nI b / 4 * 4 = nI (b % 2 ^ 2) := by rw [show (4 : Int32) = nI 4 from rfl, pk_rem (by omega) (by omega) (by omega)]
  refine ⟨vi, nm_r (ed_u l31 rfl) ⟨by decide, vi, nm_r (ed_u l31 e5) ⟨by decide, vi, nm_r (ed_u l31 e4) ⟨vi, nm_r (ed_u l31 rfl) ⟨vi, nm_r (ed_u l31 rfl) ⟨0 + 1 + 1 + 1, ?_⟩⟩⟩⟩⟩⟩
  refine ed_y113 (k := 0) hc (by omega) ?_
  refine ed_y113 (k := 1) hc (by omega) ?_
  refine br_t (by decide) (nm_r (nI_1 c) ⟨nI_pred c, c + 1, _, _, _, _, _, _, _, bd, ur, n, n', fd, ft, us, fd', ft', us', ?_, rfl, rfl⟩)
  obtain ⟨g1, g2, g3, g4, g5, g6, g7, g8, g9, g10⟩ := G
  exact ⟨hc, rc_up_lt g2 ha, rc_up_lt g3 (by omega), rc_up_lt g4 (by omega), rc_up_lt g5 hd, rc_up_lt g6 hg, rc_up_lt (rc_up_lt g7 (by omega)) (by omega), rc_up_lt (rc_up_lt g8 (by omega)) (by omega), g9, g10⟩
def ds_1 (f : Nat → Nat) (i : Nat) : Nat → Nat := rc_up f i (f (i + 1))
def ds_2 (f : Nat → Nat) (i k : Nat) : Nat → Nat := rc_up f (2 * i + k) (f (2 * i + 2 + k))
def dr_1 : Nat → (Nat → Nat) → Nat → (Nat → Nat)
  | 0, f, _ => f
  | d + 1, f, i => dr_1 d (ds_1 f i) (i + 1)
def dr_2 : Nat → (Nat → Nat) → Nat → (Nat → Nat)
  | 0, f, _ => f
  | d + 1, f, i => dr_2 d (ds_2 (ds_2 f i 0) i 1) (i + 1)
theorem dr_1_lt {b : Nat} : ∀ (d : Nat) (f : Nat → Nat) (i : Nat), (∀ j, f j < b) → ∀ j, dr_1 d f i j < b := by
  intro d
  induction d with
  | zero => intro f i h; exact h
  | succ d ih => intro f i h; exact ih _ _ (rc_up_lt h (h _))
theorem dr_2_lt {b : Nat} : ∀ (d : Nat) (f : Nat → Nat) (i : Nat), (∀ j, f j < b) → ∀ j, dr_2 d f i j < b := by
  intro d
  induction d with
  | zero => intro f i h; exact h
  | succ d ih =>
    intro f i h
    have h1 : ∀ j, ds_2 f i 0 j < b := rc_up_lt h (h _)
    have h2 : ∀ j, ds_2 (ds_2 f i 0) i 1 j < b := rc_up_lt h1 (h1 _)
    exact ih _ _ h2
theorem dp_1 {f : Nat → Nat} {i : Nat} (hi : i + 1 < 2 ^ 31) : upd (tp_I f) (nI i).toNatClampNeg (tp_I f (nI (i + 1)).toNatClampNeg) = tp_I (ds_1 f i) := by
  rw [nI_clamp hi, nI_clamp (show i < 2 ^ 31 by omega)]
  exact tp_I_up f i (f (i + 1))
theorem dp_2 {f : Nat → Nat} {i k : Nat} (hi : 2 * i + 2 + k < 2 ^ 31) : upd (tp_I f) (nI (2 * i + k)).toNatClampNeg (tp_I f (nI (2 * i + 2 + k)).toNatClampNeg) = tp_I (ds_2 f i k) := by
  rw [nI_clamp hi, nI_clamp (show 2 * i + k < 2 ^ 31 by omega)]
  exact tp_I_up f (2 * i + k) (f (2 * i + 2 + k))
theorem dp_x {i k : Nat} : 2 * nI (i + 1) + nI k = nI (2 * i + 2 + k) := by
  rw [bx_2]
  exact congrArg nI (by omega)
theorem dp_y {i k : Nat} : (2 * nI i + 2) + nI k = nI (2 * i + 2 + k) := by
  rw [show (2 : Int32) * nI i + 2 = nI (2 * i + 2) from bx_2 i 2, nI_add]
theorem dr_x66 {post : SX → Prop} {cc n : Int32} {i k m : Nat} {le gr : Nat → Nat} {a1 a2 a3 a4 a5 a8 a9 fd ft us : Nat → Int32} (hi : i + 1 < 12) (hk : k < 2)
    (p : wX_takeFromNext_66 post (nI i) (nI (i + 1)) cc n m (nI (k + 1)) a1 a2 a3 a4 a5 (tp_I (ds_2 le i k)) (tp_I (ds_2 gr i k)) a8 a9 fd ft us) :
    wX_takeFromNext_66 post (nI i) (nI (i + 1)) cc n (m + 1) (nI k) a1 a2 a3 a4 a5 (tp_I le) (tp_I gr) a8 a9 fd ft us := by
  have v1 : vp_in (nI (2 * i + k)) 24 := vp_in_nI (by omega) (by omega)
  have v2 : vp_in (nI (2 * i + 2 + k)) 24 := vp_in_nI (by omega) (by omega)
  refine pk_le 2 k (fun z => by omega) (fun _ => ?_)
  rw [bx_2 i k, dp_x]
  exact ⟨v2, v1, nm_r (dp_2 (by omega)) ⟨v2, v1, nm_r (dp_2 (by omega)) (nm_r (nI_1 k) p)⟩⟩
theorem dr_y95 {post : Int32 → SY → Prop} {J : Int32 → (Nat → Int32) → (Nat → Int32) → (Nat → Int32) → (Nat → Int32) → (Nat → Int32) → (Nat → Int32) → (Nat → Int32) → (Nat → Int32) → (Nat → Int32) → (Nat → Int32) → (Nat → Int32) → (Nat → Int32) → Prop} {cc n : Int32} {i k m : Nat} {le gr : Nat → Nat} {a1 a2 a3 a4 a5 a8 a9 fd ft us : Nat → Int32} (hi : i + 1 < 12) (hk : k < 2)
    (p : wY_drop_95 post J (nI i) cc n m (nI (k + 1)) a1 a2 a3 a4 a5 (tp_I (ds_2 le i k)) (tp_I (ds_2 gr i k)) a8 a9 fd ft us) :
    wY_drop_95 post J (nI i) cc n (m + 1) (nI k) a1 a2 a3 a4 a5 (tp_I le) (tp_I gr) a8 a9 fd ft us := by
  have v1 : vp_in (nI (2 * i + k)) 24 := vp_in_nI (by omega) (by omega)
  have v2 : vp_in (nI (2 * i + 2 + k)) 24 := vp_in_nI (by omega) (by omega)
  refine pk_le 2 k (fun z => by omega) (fun _ => ?_)
  rw [bx_2 i k, dp_y]
  exact ⟨v2, v1, nm_r (dp_2 (by omega)) ⟨v2, v1, nm_r (dp_2 (by omega)) (nm_r (nI_1 k) p)⟩⟩
theorem dr_x {post : Int32 → SX → Prop} {c : Nat} {bd ur : Nat → Nat} {n : Int32} {fd ft us : Nat → Int32} (hc : c < 12) :
    ∀ (d m i : Nat) (pr so ta rs sg le gr : Nat → Nat), i + d = c → d < m → post (nI c) (xs_S c (dr_1 d pr i) (dr_1 d so i) (dr_1 d ta i) (dr_1 d rs i) (dr_1 d sg i) (dr_2 d le i) (dr_2 d gr i) bd ur n fd ft us) → wX_drop_23 post m (nI i) (nI c) n (tp_I pr) (tp_I so) (tp_I ta) (tp_I rs) (tp_I sg) (tp_I le) (tp_I gr) (tp_I bd) (tp_I ur) fd ft us := by
  intro d
  induction d with
  | zero =>
    intro m i pr so ta rs sg le gr h1 h2 p
    obtain ⟨m, rfl⟩ : ∃ m', m = m' + 1 := ⟨m - 1, by omega⟩
    exact pk_le c i (fun _ => p) (fun h => absurd h (by omega))
  | succ d ih =>
    intro m i pr so ta rs sg le gr h1 h2 p
    obtain ⟨m, rfl⟩ : ∃ m', m = m' + 1 := ⟨m - 1, by omega⟩
    have v1 : vp_in (nI i) 12 := vp_in_nI (by omega) (by omega)
    have v2 : vp_in (nI (i + 1)) 12 := vp_in_nI (by omega) (by omega)
    have l31 : i + 1 < 2 ^ 31 := by omega
    refine pk_le c i (fun h => absurd h (by omega)) (fun _ => ?_)
    unfold wpX_takeFromNext
    dsimp only
    refine nm_r (nI_1 i) ⟨v2, v1, nm_r (dp_1 l31) ⟨v2, v1, nm_r (dp_1 l31) ⟨v2, v1, nm_r (dp_1 l31) ⟨v2, v1, nm_r (dp_1 l31) ⟨v2, v1, nm_r (dp_1 l31) ⟨0 + 1 + 1 + 1, ?_⟩⟩⟩⟩⟩⟩
    refine dr_x66 (k := 0) (by omega) (by omega) ?_
    refine dr_x66 (k := 1) (by omega) (by omega) ?_
    refine br_t (by decide) (nm_r (nI_1 i) ?_)
    exact ih m (i + 1) _ _ _ _ _ _ _ (by omega) (by omega) p
theorem dr_y {post : Int32 → SY → Prop} {c : Nat} {bd ur : Nat → Nat} {n : Int32} {fd ft us : Nat → Int32} (hc : c < 12) :
    ∀ (d m i : Nat) (pr so ta rs sg le gr : Nat → Nat), i + d = c → d < m → post (nI c) (ys_S c (dr_1 d pr i) (dr_1 d so i) (dr_1 d ta i) (dr_1 d rs i) (dr_1 d sg i) (dr_2 d le i) (dr_2 d gr i) bd ur n fd ft us) → wY_drop_13 post (nI (c + 1)) n m (nI i) (tp_I pr) (tp_I so) (tp_I ta) (tp_I rs) (tp_I sg) (tp_I le) (tp_I gr) (tp_I bd) (tp_I ur) ft fd us := by
  intro d
  induction d with
  | zero =>
    intro m i pr so ta rs sg le gr h1 h2 p
    obtain ⟨m, rfl⟩ : ∃ m', m = m' + 1 := ⟨m - 1, by omega⟩
    exact pk_le c i (fun _ => nm_r (nI_pred c) p) (fun h => absurd h (by omega)) (nI_pred c)
  | succ d ih =>
    intro m i pr so ta rs sg le gr h1 h2 p
    obtain ⟨m, rfl⟩ : ∃ m', m = m' + 1 := ⟨m - 1, by omega⟩
    have v1 : vp_in (nI i) 12 := vp_in_nI (by omega) (by omega)
    have v2 : vp_in (nI (i + 1)) 12 := vp_in_nI (by omega) (by omega)
    have l31 : i + 1 < 2 ^ 31 := by omega
    refine pk_le c i (fun h => absurd h (by omega)) (fun _ => ?_) (nI_pred c)
    rw [nI_1 i]
    refine ⟨v2, v1, nm_r (dp_1 l31) ⟨v2, v1, nm_r (dp_1 l31) ⟨v2, v1, nm_r (dp_1 l31) ⟨v2, v1, nm_r (dp_1 l31) ⟨v2, v1, nm_r (dp_1 l31) ⟨0 + 1 + 1 + 1, ?_⟩⟩⟩⟩⟩⟩
    refine dr_y95 (k := 0) (by omega) (by omega) ?_
    refine dr_y95 (k := 1) (by omega) (by omega) ?_
    refine br_t (by decide) (nm_r (nI_1 i) ?_)
    exact ih m (i + 1) _ _ _ _ _ _ _ (by omega) (by omega) p
theorem i_vc_drop {k : Nat} {u : SX} {v : SY} (I : i_Rel k u v) (hk : k + 5 ≤ 2560) (v1 : Int32) : wpX_drop (fun r u' => wpY_drop (fun r' v' => r' = r ∧ i_Rel (k + 5) u' v') v v1) u v1 := by
  obtain ⟨c, pr, so, ta, rs, sg, le, gr, bd, ur, n, n', fd, ft, us, fd', ft', us', G, rfl, rfl⟩ := I
  have c12 := G.1
  have same : i_Rel (k + 5) (xs_S c pr so ta rs sg le gr bd ur n fd ft us) (ys_S c pr so ta rs sg le gr bd ur n' fd' ft' us') := ⟨c, pr, so, ta, rs, sg, le, gr, bd, ur, n, n', fd, ft, us, fd', ft', us', G, rfl, rfl⟩
  unfold wpX_drop
  dsimp only
  refine xm_isEdge G (fun e => br_f (by decide) ?_) (fun e => br_t rfl ?_)
  rotate_left
  · unfold wpY_drop
    exact ym_isEdge G (fun h => absurd h e) (fun _ => br_t rfl ⟨rfl, same⟩)
  have ee := e
  obtain ⟨e, he, rfl⟩ := e
  obtain ⟨d, rfl⟩ : ∃ d, c = e + d + 1 := ⟨c - e - 1, by omega⟩
  refine nm_r (nI_pred (e + d)) ⟨d + 1, dr_x (by omega) d (d + 1) e pr so ta rs sg le gr rfl (by omega) ?_⟩
  unfold wpY_drop
  refine ym_isEdge G (fun _ => br_f (by decide) ⟨d + 1, dr_y (by omega) d (d + 1) e pr so ta rs sg le gr rfl (by omega) ?_⟩) (fun h => absurd ee h)
  refine ⟨rfl, e + d, _, _, _, _, _, _, _, bd, ur, n, n', fd, ft, us, fd', ft', us', ?_, rfl, rfl⟩
  obtain ⟨g1, g2, g3, g4, g5, g6, g7, g8, g9, g10⟩ := G
  exact ⟨by omega, dr_1_lt _ _ _ g2, dr_1_lt _ _ _ g3, dr_1_lt _ _ _ g4, dr_1_lt _ _ _ g5, dr_1_lt _ _ _ g6, dr_2_lt _ _ _ g7, dr_2_lt _ _ _ g8, g9, g10⟩
end
section
/-! what is read off the search, on both sides -/
theorem qa_p1 : ∀ q, q < 1024 → tp_ph q % 16 = q / 64 := by decide +kernel
theorem qa_p2 : ∀ s, s < 1024 → tp_ps s / 64 = s % 16 := by decide +kernel
/-- v is the least time of the pair, 21 if there is none -/
def qa_mn (T : Nat → Nat) (a v : Nat) : Prop := (∀ s, s < 1024 → s % 16 = a → v ≤ T s) ∧ (v = 21 ∨ (v ≤ 20 ∧ ∃ s, s < 1024 ∧ s % 16 = a ∧ T s = v))
theorem qa_uni {T : Nat → Nat} {a v w : Nat} (A : qa_mn T a v) (B : qa_mn T a w) : v = w := by
  obtain ⟨a1, a2⟩ := A
  obtain ⟨b1, b2⟩ := B
  rcases a2 with z | ⟨z, s, hs, es, ts⟩
  · rcases b2 with x | ⟨x, t, ht, et, tt⟩
    · rw [z, x]
    · have := a1 t ht et
      omega
  · have h1 := b1 s hs es
    rcases b2 with x | ⟨x, t, ht, et, tt⟩
    · omega
    · have h2 := a1 t ht et
      omega
theorem qa_ex {T : Nat → Nat} (hT : ∀ s, s < 1024 → T s ≤ 21) (a : Nat) : ∃ v, qa_mn T a v := by
  obtain ⟨v, hv, hl⟩ := pk_least (fun v => v = 21 ∨ ∃ s, s < 1024 ∧ s % 16 = a ∧ T s = v) ⟨21, Or.inl rfl⟩
  have le21 : v ≤ 21 := by
    by_cases z : v ≤ 21
    · exact z
    · exact absurd (Or.inl rfl) (hl 21 (by omega))
  refine ⟨v, fun s hs es => ?_, ?_⟩
  · by_cases z : v ≤ T s
    · exact z
    · exact absurd (Or.inr ⟨s, hs, es, rfl⟩) (hl (T s) (by omega))
  · by_cases z : v = 21
    · exact Or.inl z
    · rcases hv with w | w
      · exact absurd w z
      · exact Or.inr ⟨by omega, w⟩
theorem qa_le {T : Nat → Nat} {a v : Nat} (M : qa_mn T a v) : v ≤ 21 := by
  rcases M.2 with z | z <;> omega
/-- a state of the pair with the clock between low and high is found -/
def qa_hb (T : Nat → Nat) (a k low high : Nat) : Prop := ∃ s, s < 1024 ∧ T s ≠ 21 ∧ s % 16 = a ∧ low ≤ tp_ck s k ∧ tp_ck s k ≤ high
/-- m is the set of the locations of process p -/
def qa_L (T : Nat → Nat) (p m : Nat) : Prop := m < 16 ∧ ∀ l, l < 4 → (m.testBit l = true ↔ ∃ s, s < 1024 ∧ T s ≠ 21 ∧ tp_pl s p = l)
theorem qa_L_uni {T : Nat → Nat} {p m m' : Nat} (A : qa_L T p m) (B : qa_L T p m') : m = m' := by
  apply Nat.eq_of_testBit_eq
  intro i
  by_cases z : i < 4
  · have h1 := A.2 i z
    have h2 := B.2 i z
    rw [Bool.eq_iff_iff, h1, h2]
  · have hp : 2 ^ 4 ≤ 2 ^ i := Nat.pow_le_pow_right (by omega) (by omega)
    rw [Nat.testBit_lt_two_pow (Nat.lt_of_lt_of_le A.1 hp), Nat.testBit_lt_two_pow (Nat.lt_of_lt_of_le B.1 hp)]
theorem qa_or {m l i : Nat} (hm : m < 16) (hl : l < 4) : (m ||| 2 ^ l) < 16 ∧ ((m ||| 2 ^ l).testBit i = true ↔ (m.testBit i = true ∨ l = i)) := by
  constructor
  · exact Nat.or_lt_two_pow (n := 4) hm (Nat.lt_of_lt_of_le (Nat.pow_lt_pow_right (by omega) hl) (Nat.le_refl _))
  · rw [Nat.testBit_or, Nat.testBit_two_pow, Bool.or_eq_true, decide_eq_true_eq]
theorem qa_sh : ∀ l, l < 4 → ((1 : Int32) <<< (nI l &&& 31)) = nI (2 ^ l) := by decide +kernel
section
variable {c : Nat} {pr so ta rs sg le gr bd ur : Nat → Nat}
theorem qa_same (G : tp_G c pr so ta rs sg le gr bd ur) {T U T' U' : Nat → Nat} (A : rc_Fin (tp_mv c pr so ta rs sg le gr bd) (tp_wt bd ur) T U) (B : rc_Fin (rc_mY (tp_mv c pr so ta rs sg le gr bd) tp_ph) (rc_wY (tp_wt bd ur) tp_ph) T' U') : (∀ q, q < 1024 → T' q = T (tp_ph q)) ∧ (∀ e, U' e = U e) :=
  rc_same (tp_mv c pr so ta rs sg le gr bd) (tp_wt bd ur) tp_ph tp_ps tp_ph_0 tp_ps_0 (fun s hs => tp_ph_ps hs) (fun s hs => tp_ps_ph hs) (fun e f s s' _ mm => tp_mv_lt c pr so ta rs sg le gr bd G.2.2.2.1 mm) (fun s s' _ w => tp_wt_lt bd ur w) A B
variable {n : Nat} {F T U : Nat → Nat} {fc : Int32} {fd ft us : Nat → Int32} {lo : Nat}
theorem qa_fd (O : rc_Ok (tp_mv c pr so ta rs sg le gr bd) (tp_wt bd ur) lo 20 n F T U) {P : Nat → Prop} : (∃ s, s < 1024 ∧ T s ≠ 21 ∧ P s) ↔ ∃ i, i < n ∧ P (F i) := by
  constructor
  · rintro ⟨s, hs, ht, p⟩
    rcases O.2.2.2.2.2.1 s hs with z | ⟨i, hi, e⟩
    · exact absurd z ht
    · exact ⟨i, hi, by rw [e]; exact p⟩
  · rintro ⟨i, hi, p⟩
    have h := O.2.2.2.1 i hi
    exact ⟨F i, h.1, by have := h.2.1; omega, p⟩
theorem qa_and {s : Nat} (hs : s < 1024) : nI s &&& 15 = nI (s % 16) := pk_andN (by omega) 4 (by decide)
theorem qa_xl2 {post : Int32 → Prop} {a v : Nat} (A : rc_A rc_kx n F T U fc fd ft us) (O : rc_Ok (tp_mv c pr so ta rs sg le gr bd) (tp_wt bd ur) lo 20 n F T U) (ha : a < 16) (M : qa_mn T a v) (p : post (rc_kx v)) :
    ∀ m i, n - i < m → i ≤ n → (∀ j, j < i → F j % 16 ≠ a) → wX_leastTime_2 post (nI a) (nI c) fc (tp_I pr) (tp_I so) (tp_I ta) (tp_I rs) (tp_I sg) (tp_I le) (tp_I gr) (tp_I bd) (tp_I ur) fd ft us m (nI i) := by
  have hn := rc_Ok_n _ _ O
  obtain ⟨rfl, a2, a3, a4⟩ := A
  intro m
  induction m with
  | zero => intro i h; omega
  | succ m ih =>
    intro i h1 h2 h3
    refine pk_le n i (fun z => ?_) (fun z => ?_)
    · have e : v = 21 := by
        rcases M.2 with w | ⟨w, s, hs, es, ts⟩
        · exact w
        · obtain ⟨j, hj, ej⟩ := (qa_fd O (P := fun s => s % 16 = a)).mp ⟨s, hs, by omega, es⟩
          exact absurd ej (h3 j (by omega))
      rw [e] at p
      exact p
    · have hF := (O.2.2.2.1 i z).1
      have hT := (O.2.2.2.1 i z).2.1
      rw [nI_clamp (show i < 2 ^ 31 by omega), a2 i z, nI_clamp (show F i < 2 ^ 31 by omega)]
      refine ⟨vp_in_nI (by omega) (by omega), pk_eq (F i % 16) a (fun w => ?_) (fun w => nm_r (nI_1 i) (ih (i + 1) (by omega) (by omega) (fun j hj => ?_))) (qa_and hF)⟩
      · refine ⟨vp_in_nI (by omega) (by omega), vp_in_nI hF (by omega), ?_⟩
        have g1 := M.1 (F i) hF w
        have e : T (F i) = v := by
          rcases M.2 with x | ⟨x, s, hs, es, ts⟩
          · omega
          · rcases O.2.2.2.2.2.1 s hs with y | ⟨j, hj, ej⟩
            · omega
            · have hij : i ≤ j := by
                by_cases q : i ≤ j
                · exact q
                · exact absurd (by rw [ej]; exact es) (h3 j (by omega))
              have g2 := O.2.2.2.2.2.2.2 i j hij hj
              rw [ej] at g2
              omega
        rw [a3 (F i) hF, e]
        exact p
      · by_cases q : j = i
        · rw [q]; exact w
        · exact h3 j (by omega)
theorem qa_xl {post : Int32 → Prop} {a v : Nat} (A : rc_A rc_kx n F T U fc fd ft us) (O : rc_Ok (tp_mv c pr so ta rs sg le gr bd) (tp_wt bd ur) lo 20 n F T U) (ha : a < 16) (M : qa_mn T a v) (p : post (rc_kx v)) : wpX_leastTime post (xs_S c pr so ta rs sg le gr bd ur fc fd ft us) (nI a) :=
  ⟨n + 1, qa_xl2 A O ha M p (n + 1) 0 (by omega) (by omega) (fun j hj => absurd hj (by omega))⟩
theorem qa_xh3 {post : Int32 → Prop} {a k low high : Nat} (A : rc_A rc_kx n F T U fc fd ft us) (O : rc_Ok (tp_mv c pr so ta rs sg le gr bd) (tp_wt bd ur) lo 20 n F T U) (ha : a < 16) (hk : k < 2) (hl : low < 8) (hh : high < 8) (h1 : qa_hb T a k low high → post 1) (h0 : ¬ qa_hb T a k low high → post 0) :
    ∀ m i, n - i < m → i ≤ n → (∀ j, j < i → ¬ (F j % 16 = a ∧ low ≤ tp_ck (F j) k ∧ tp_ck (F j) k ≤ high)) → wX_holdsBetween_3 post (nI a) (nI k) (nI low) (nI high) (nI c) fc (tp_I pr) (tp_I so) (tp_I ta) (tp_I rs) (tp_I sg) (tp_I le) (tp_I gr) (tp_I bd) (tp_I ur) fd ft us m (nI i) := by
  have hn := rc_Ok_n _ _ O
  obtain ⟨rfl, a2, a3, a4⟩ := A
  intro m
  induction m with
  | zero => intro i h; omega
  | succ m ih =>
    intro i g1 g2 g3
    refine pk_le n i (fun z => ?_) (fun z => ?_)
    · refine h0 (fun q => ?_)
      obtain ⟨j, hj, ej⟩ := (qa_fd O (P := fun s => s % 16 = a ∧ low ≤ tp_ck s k ∧ tp_ck s k ≤ high)).mp q
      exact g3 j (by omega) ej
    · have hF := (O.2.2.2.1 i z).1
      have hc := tp_ck_lt (F i) k
      have next : ¬ (F i % 16 = a ∧ low ≤ tp_ck (F i) k ∧ tp_ck (F i) k ≤ high) → wX_holdsBetween_3 post (nI a) (nI k) (nI low) (nI high) (nI c) (nI n) (tp_I pr) (tp_I so) (tp_I ta) (tp_I rs) (tp_I sg) (tp_I le) (tp_I gr) (tp_I bd) (tp_I ur) fd ft us m (nI (i + 1)) := by
        intro w
        refine ih (i + 1) (by omega) (by omega) (fun j hj => ?_)
        by_cases q : j = i
        · rw [q]; exact w
        · exact g3 j (by omega)
      rw [nI_clamp (show i < 2 ^ 31 by omega), a2 i z]
      refine ⟨vp_in_nI (by omega) (by omega), xm_clock hF hk ⟨vp_in_nI (by omega) (by omega), pk_eq (F i % 16) a (fun w => pk_lt (tp_ck (F i) k) low (fun x => nm_r (nI_1 i) (next (by omega))) (fun x => pk_lt high (tp_ck (F i) k) (fun y => nm_r (nI_1 i) (next (by omega))) (fun y => h1 ?_))) (fun w => nm_r (nI_1 i) (next (fun q => w q.1))) (qa_and hF)⟩⟩
      exact (qa_fd O (P := fun s => s % 16 = a ∧ low ≤ tp_ck s k ∧ tp_ck s k ≤ high)).mpr ⟨i, z, w, x, y⟩
theorem qa_xh {post : Int32 → Prop} {a k low high : Nat} (A : rc_A rc_kx n F T U fc fd ft us) (O : rc_Ok (tp_mv c pr so ta rs sg le gr bd) (tp_wt bd ur) lo 20 n F T U) (ha : a < 16) (hk : k < 2) (hl : low < 8) (hh : high < 8) (h1 : qa_hb T a k low high → post 1) (h0 : ¬ qa_hb T a k low high → post 0) : wpX_holdsBetween post (xs_S c pr so ta rs sg le gr bd ur fc fd ft us) (nI a) (nI k) (nI low) (nI high) :=
  ⟨n + 1, qa_xh3 A O ha hk hl hh h1 h0 (n + 1) 0 (by omega) (by omega) (fun j hj => absurd hj (by omega))⟩
theorem qa_xp {post : Int32 → SX → Prop} {f : Nat → Nat} (A : rc_A rc_kx n F T U fc fd ft us) (O : rc_Ok (tp_mv c pr so ta rs sg le gr bd) (tp_wt bd ur) lo 20 n F T U) (M : ∀ a, qa_mn T a (f a)) (p : post (nI (rc_cn f 16)) (xs_S c pr so ta rs sg le gr bd ur fc fd ft us)) :
    ∀ m i, 16 - i < m → i ≤ 16 → wX_pairs_8 post (nI c) fc (tp_I pr) (tp_I so) (tp_I ta) (tp_I rs) (tp_I sg) (tp_I le) (tp_I gr) (tp_I bd) (tp_I ur) fd ft us m (nI (rc_cn f i)) (nI i) := by
  intro m
  induction m with
  | zero => intro i h; omega
  | succ m ih =>
    intro i h1 h2
    refine pk_le 16 i (fun z => ?_) (fun z => ?_)
    · have e : i = 16 := by omega
      rw [e]; exact p
    · refine qa_xl A O (by omega) (M i) ?_
      have hi := ih (i + 1) (by omega) (by omega)
      have l21 := qa_le (M i)
      by_cases w : f i = 21
      · rw [show rc_cn f (i + 1) = rc_cn f i from by show rc_cn f i + (if f i = 21 then 0 else 1) = _; rw [if_pos w]; rfl] at hi
        exact br_t (by rw [w]; rfl) (nm_r (nI_1 i) hi)
      · rw [show rc_cn f (i + 1) = rc_cn f i + 1 from by show rc_cn f i + (if f i = 21 then 0 else 1) = _; rw [if_neg w]] at hi
        exact br_f (rc_kx_t _ (by omega)) (nm_r (nI_1 _) (nm_r (nI_1 i) hi))
theorem qa_xo {post : Int32 → SX → Prop} {p : Nat} (A : rc_A rc_kx n F T U fc fd ft us) (O : rc_Ok (tp_mv c pr so ta rs sg le gr bd) (tp_wt bd ur) lo 20 n F T U) (hp : p < 2) (h : ∀ m, qa_L T p m → post (nI m) (xs_S c pr so ta rs sg le gr bd ur fc fd ft us)) :
    ∀ m i w, n - i < m → i ≤ n → w < 16 → (∀ l, l < 4 → (w.testBit l = true ↔ ∃ j, j < i ∧ tp_pl (F j) p = l)) → wX_locations_18 post (nI p) (nI c) fc (tp_I pr) (tp_I so) (tp_I ta) (tp_I rs) (tp_I sg) (tp_I le) (tp_I gr) (tp_I bd) (tp_I ur) fd ft us m (nI w) (nI i) := by
  have hn := rc_Ok_n _ _ O
  obtain ⟨rfl, a2, a3, a4⟩ := A
  intro m
  induction m with
  | zero => intro i w h; omega
  | succ m ih =>
    intro i w h1 h2 hw hb
    refine pk_le n i (fun z => ?_) (fun z => ?_)
    · refine h w ⟨hw, fun l hl => ?_⟩
      rw [qa_fd O (P := fun s => tp_pl s p = l), hb l hl, show i = n from by omega]
    · have hF := (O.2.2.2.1 i z).1
      have hl := tp_pl_lt (F i) p
      rw [nI_clamp (show i < 2 ^ 31 by omega), a2 i z]
      refine ⟨vp_in_nI (by omega) (by omega), xm_location hF hp ?_⟩
      rw [qa_sh _ hl, bx_or]
      refine nm_e (nm_r (nI_1 i) (ih (i + 1) _ (by omega) (by omega) (qa_or (i := 0) hw hl).1 (fun l hl' => ?_)))
      rw [(qa_or hw hl).2, hb l hl']
      constructor
      · rintro (⟨j, hj, e⟩ | e)
        · exact ⟨j, by omega, e⟩
        · exact ⟨i, by omega, e⟩
      · rintro ⟨j, hj, e⟩
        by_cases q : j = i
        · rw [q] at e; exact Or.inr e
        · exact Or.inl ⟨j, by omega, e⟩
/-! the reference: T is the component's, T' its own -/
variable {T' U' : Nat → Nat}
theorem qa_yl8 {post : Int32 → Prop} {a v : Nat} (A : rc_A rc_ky n F T' U' fc fd ft us) (E : ∀ q, q < 1024 → T' q = T (tp_ph q)) (hT : ∀ s, s < 1024 → T s ≤ 21) (ha : a < 16) (M : qa_mn T a v) (p : post (nI v)) :
    ∀ m i w, 64 * a + 64 - i < m → 64 * a ≤ i → i ≤ 64 * a + 64 → (w = 21 ∨ (w ≤ 20 ∧ ∃ q, 64 * a ≤ q ∧ q < i ∧ T' q = w)) → (∀ q, 64 * a ≤ q → q < i → w ≤ T' q) → wY_leastTime_8 post (nI a) (nI c) fc (tp_I pr) (tp_I so) (tp_I ta) (tp_I rs) (tp_I sg) (tp_I le) (tp_I gr) (tp_I bd) (tp_I ur) ft fd us m (nI w) (nI i) := by
  intro m
  induction m with
  | zero => intro i w h; omega
  | succ m ih =>
    intro i w h1 h2 h3 g1 g2
    have w21 : w ≤ 21 := by rcases g1 with z | z <;> omega
    refine pk_le (64 * a + 64) i (fun z => ?_) (fun z => ?_) (by rw [show (64 : Int32) = nI 64 from rfl, pk_mul, nI_add])
    · have e : w = v := by
        refine qa_uni (T := T) (a := a) ⟨fun s hs es => ?_, ?_⟩ M
        · obtain ⟨q1, q2⟩ := tp_ph_ps hs
          have q3 := qa_p2 s hs
          have := g2 (tp_ps s) (by omega) (by omega)
          rw [E _ q1, q2] at this
          exact this
        · rcases g1 with y | ⟨y, q, q1, q2, q3⟩
          · exact Or.inl y
          · refine Or.inr ⟨y, tp_ph q, (tp_ps_ph (by omega)).1, ?_, ?_⟩
            · have := qa_p1 q (by omega)
              omega
            · rw [← E q (by omega)]; exact q3
      rw [e]; exact p
    · have hi : i < 1024 := by omega
      have t21 : T' i ≤ 21 := by rw [E i hi]; exact hT _ (tp_ps_ph hi).1
      rw [nI_clamp (show i < 2 ^ 31 by omega), A.2.2.1 i hi]
      refine ⟨vp_in_nI hi (by omega), pk_le w (T' i) (fun x => nm_r (nI_1 i) (ih (i + 1) w (by omega) (by omega) (by omega) ?_ ?_)) (fun x => ⟨vp_in_nI hi (by omega), nm_e (nm_r (nI_1 i) (ih (i + 1) (T' i) (by omega) (by omega) (by omega) ?_ ?_))⟩)⟩
      · rcases g1 with y | ⟨y, q, q1, q2, q3⟩
        · exact Or.inl y
        · exact Or.inr ⟨y, q, q1, by omega, q3⟩
      · intro q q1 q2
        by_cases y : q = i
        · rw [y]; exact x
        · exact g2 q q1 (by omega)
      · exact Or.inr ⟨by omega, i, h2, by omega, rfl⟩
      · intro q q1 q2
        by_cases y : q = i
        · rw [y]; exact Nat.le_refl _
        · have := g2 q q1 (by omega)
          omega
theorem qa_yl {post : Int32 → Prop} {a v : Nat} (A : rc_A rc_ky n F T' U' fc fd ft us) (E : ∀ q, q < 1024 → T' q = T (tp_ph q)) (hT : ∀ s, s < 1024 → T s ≤ 21) (ha : a < 16) (M : qa_mn T a v) (p : post (nI v)) : wpY_leastTime post (ys_S c pr so ta rs sg le gr bd ur fc fd ft us) (nI a) := by
  refine nm_r (show (64 : Int32) * nI a = nI (64 * a) from by rw [show (64 : Int32) = nI 64 from rfl, pk_mul]) ⟨64 + 1, ?_⟩
  exact qa_yl8 A E hT ha M p (64 + 1) (64 * a) 21 (by omega) (by omega) (by omega) (Or.inl rfl) (fun q h1 h2 => absurd h1 (by omega))
theorem qa_hbY {a k low high : Nat} (E : ∀ q, q < 1024 → T' q = T (tp_ph q)) (ha : a < 16) : qa_hb T a k low high ↔ ∃ q, 64 * a ≤ q ∧ q < 64 * a + 64 ∧ T' q ≠ 21 ∧ low ≤ tp_ck (tp_ph q) k ∧ tp_ck (tp_ph q) k ≤ high := by
  constructor
  · rintro ⟨s, hs, t, es, l, h⟩
    obtain ⟨q1, q2⟩ := tp_ph_ps hs
    have q3 := qa_p2 s hs
    refine ⟨tp_ps s, by omega, by omega, ?_, ?_, ?_⟩
    · rw [E _ q1, q2]; exact t
    · rw [q2]; exact l
    · rw [q2]; exact h
  · rintro ⟨q, q1, q2, t, l, h⟩
    have q3 := qa_p1 q (by omega)
    rw [E q (by omega)] at t
    exact ⟨tp_ph q, (tp_ps_ph (by omega)).1, t, by omega, l, h⟩
theorem qa_ym39 {post : Int32 → SY → Prop} {a k v : Nat} (A : rc_A rc_ky n F T' U' fc fd ft us) (E : ∀ q, q < 1024 → T' q = T (tp_ph q)) (hT : ∀ s, s < 1024 → T s ≤ 21) (ha : a < 16) (hk : k < 2) (hv : v < 7) (h1 : qa_hb T a k 0 v → post 1 (ys_S c pr so ta rs sg le gr bd ur fc fd ft us)) (h0 : ¬ qa_hb T a k 0 v → post 0 (ys_S c pr so ta rs sg le gr bd ur fc fd ft us)) :
    ∀ m i, 64 * a + 64 - i < m → 64 * a ≤ i → i ≤ 64 * a + 64 → (∀ q, 64 * a ≤ q → q < i → ¬ (T' q ≠ 21 ∧ tp_ck (tp_ph q) k ≤ v)) → wY_atMost_39 post (nI a) (nI k) (nI v) (nI c) fc (tp_I pr) (tp_I so) (tp_I ta) (tp_I rs) (tp_I sg) (tp_I le) (tp_I gr) (tp_I bd) (tp_I ur) ft fd us m (nI i) := by
  intro m
  induction m with
  | zero => intro i h; omega
  | succ m ih =>
    intro i g1 g2 g3 g4
    refine pk_le (64 * a + 64) i (fun z => h0 (fun q => ?_)) (fun z => ?_) (by rw [show (64 : Int32) = nI 64 from rfl, pk_mul, nI_add])
    · obtain ⟨q, q1, q2, q3, q4, q5⟩ := (qa_hbY E ha).mp q
      exact g4 q q1 (by omega) ⟨q3, q5⟩
    · have hi : i < 1024 := by omega
      have t21 : T' i ≤ 21 := by rw [E i hi]; exact hT _ (tp_ps_ph hi).1
      have hc := tp_ck_lt (tp_ph i) k
      have next : ¬ (T' i ≠ 21 ∧ tp_ck (tp_ph i) k ≤ v) → wY_atMost_39 post (nI a) (nI k) (nI v) (nI c) fc (tp_I pr) (tp_I so) (tp_I ta) (tp_I rs) (tp_I sg) (tp_I le) (tp_I gr) (tp_I bd) (tp_I ur) ft fd us m (nI (i + 1)) := by
        intro w
        refine ih (i + 1) (by omega) (by omega) (by omega) (fun q q1 q2 => ?_)
        by_cases y : q = i
        · rw [y]; exact w
        · exact g4 q q1 (by omega)
      rw [nI_clamp (show i < 2 ^ 31 by omega), A.2.2.1 i hi]
      refine ⟨vp_in_nI hi (by omega), pk_le 21 (T' i) (fun x => nm_r (nI_1 i) (next (by omega))) (fun x => ym_value hi hk (pk_lt v (tp_ck (tp_ph i) k) (fun y => nm_r (nI_1 i) (next (by omega))) (fun y => h1 ?_)))⟩
      exact (qa_hbY E ha).mpr ⟨i, g2, z, by omega, by omega, y⟩
theorem qa_yk39 {post : Int32 → SY → Prop} {a k v : Nat} (A : rc_A rc_ky n F T' U' fc fd ft us) (E : ∀ q, q < 1024 → T' q = T (tp_ph q)) (hT : ∀ s, s < 1024 → T s ≤ 21) (ha : a < 16) (hk : k < 2) (hv : v < 7) (h1 : qa_hb T a k v 7 → post 1 (ys_S c pr so ta rs sg le gr bd ur fc fd ft us)) (h0 : ¬ qa_hb T a k v 7 → post 0 (ys_S c pr so ta rs sg le gr bd ur fc fd ft us)) :
    ∀ m i, 64 * a + 64 - i < m → 64 * a ≤ i → i ≤ 64 * a + 64 → (∀ q, 64 * a ≤ q → q < i → ¬ (T' q ≠ 21 ∧ v ≤ tp_ck (tp_ph q) k)) → wY_atLeast_39 post (nI a) (nI k) (nI v) (nI c) fc (tp_I pr) (tp_I so) (tp_I ta) (tp_I rs) (tp_I sg) (tp_I le) (tp_I gr) (tp_I bd) (tp_I ur) ft fd us m (nI i) := by
  intro m
  induction m with
  | zero => intro i h; omega
  | succ m ih =>
    intro i g1 g2 g3 g4
    refine pk_le (64 * a + 64) i (fun z => h0 (fun q => ?_)) (fun z => ?_) (by rw [show (64 : Int32) = nI 64 from rfl, pk_mul, nI_add])
    · obtain ⟨q, q1, q2, q3, q4, q5⟩ := (qa_hbY E ha).mp q
      exact g4 q q1 (by omega) ⟨q3, q4⟩
    · have hi : i < 1024 := by omega
      have t21 : T' i ≤ 21 := by rw [E i hi]; exact hT _ (tp_ps_ph hi).1
      have hc := tp_ck_lt (tp_ph i) k
      have next : ¬ (T' i ≠ 21 ∧ v ≤ tp_ck (tp_ph i) k) → wY_atLeast_39 post (nI a) (nI k) (nI v) (nI c) fc (tp_I pr) (tp_I so) (tp_I ta) (tp_I rs) (tp_I sg) (tp_I le) (tp_I gr) (tp_I bd) (tp_I ur) ft fd us m (nI (i + 1)) := by
        intro w
        refine ih (i + 1) (by omega) (by omega) (by omega) (fun q q1 q2 => ?_)
        by_cases y : q = i
        · rw [y]; exact w
        · exact g4 q q1 (by omega)
      rw [nI_clamp (show i < 2 ^ 31 by omega), A.2.2.1 i hi]
      refine ⟨vp_in_nI hi (by omega), pk_le 21 (T' i) (fun x => nm_r (nI_1 i) (next (by omega))) (fun x => ym_value hi hk (pk_lt (tp_ck (tp_ph i) k) v (fun y => nm_r (nI_1 i) (next (by omega))) (fun y => h1 ?_)))⟩
      exact (qa_hbY E ha).mpr ⟨i, g2, z, by omega, y, by omega⟩
theorem qa_yp {post : Int32 → SY → Prop} {f : Nat → Nat} (A : rc_A rc_ky n F T' U' fc fd ft us) (E : ∀ q, q < 1024 → T' q = T (tp_ph q)) (hT : ∀ s, s < 1024 → T s ≤ 21) (M : ∀ a, qa_mn T a (f a)) (p : post (nI (rc_cn f 16)) (ys_S c pr so ta rs sg le gr bd ur fc fd ft us)) :
    ∀ m i, 16 - i < m → i ≤ 16 → wY_pairs_8 post (nI c) fc (tp_I pr) (tp_I so) (tp_I ta) (tp_I rs) (tp_I sg) (tp_I le) (tp_I gr) (tp_I bd) (tp_I ur) ft fd us m (nI (rc_cn f i)) (nI i) := by
  intro m
  induction m with
  | zero => intro i h; omega
  | succ m ih =>
    intro i h1 h2
    refine pk_le 16 i (fun z => ?_) (fun z => ?_)
    · have e : i = 16 := by omega
      rw [e]; exact p
    · refine qa_yl A E hT (by omega) (M i) ?_
      have hi := ih (i + 1) (by omega) (by omega)
      have l21 := qa_le (M i)
      refine pk_le 21 (f i) (fun w => ?_) (fun w => ?_)
      · rw [show rc_cn f (i + 1) = rc_cn f i from by show rc_cn f i + (if f i = 21 then 0 else 1) = _; rw [if_pos (by omega)]; rfl] at hi
        exact nm_r (nI_1 i) hi
      · rw [show rc_cn f (i + 1) = rc_cn f i + 1 from by show rc_cn f i + (if f i = 21 then 0 else 1) = _; rw [if_neg (by omega)]] at hi
        exact nm_r (nI_1 _) (nm_r (nI_1 i) hi)
theorem qa_yo {post : Int32 → SY → Prop} {p : Nat} {f : Nat → Nat} (A : rc_A rc_ky n F T' U' fc fd ft us) (E : ∀ q, q < 1024 → T' q = T (tp_ph q)) (hT : ∀ s, s < 1024 → T s ≤ 21) (M : ∀ a, qa_mn T a (f a)) (hp : p < 2) (h : ∀ m, qa_L T p m → post (nI m) (ys_S c pr so ta rs sg le gr bd ur fc fd ft us)) :
    ∀ m i w, 16 - i < m → i ≤ 16 → w < 16 → (∀ l, l < 4 → (w.testBit l = true ↔ ∃ a, a < i ∧ f a ≠ 21 ∧ tp_pl a p = l)) → wY_locations_19 post (nI p) (nI c) fc (tp_I pr) (tp_I so) (tp_I ta) (tp_I rs) (tp_I sg) (tp_I le) (tp_I gr) (tp_I bd) (tp_I ur) ft fd us m (nI w) (nI i) := by
  intro m
  induction m with
  | zero => intro i w h; omega
  | succ m ih =>
    intro i w h1 h2 hw hb
    refine pk_le 16 i (fun z => ?_) (fun z => ?_)
    · refine h w ⟨hw, fun l hl => ?_⟩
      rw [hb l hl]
      constructor
      · rintro ⟨a, ha, fa, e⟩
        rcases (M a).2 with x | ⟨x, s, hs, es, ts⟩
        · exact absurd x fa
        · refine ⟨s, hs, by omega, ?_⟩
          rw [← e]
          unfold tp_pl
          rw [← es]
          by_cases q : p = 0
          · rw [if_pos q, if_pos q]; omega
          · rw [if_neg q, if_neg q]; omega
      · rintro ⟨s, hs, ts, e⟩
        have t21 := hT s hs
        have g1 := (M (s % 16)).1 s hs rfl
        refine ⟨s % 16, by omega, by omega, ?_⟩
        rw [← e]
        unfold tp_pl
        by_cases q : p = 0
        · rw [if_pos q, if_pos q]; omega
        · rw [if_neg q, if_neg q]; omega
    · refine qa_yl A E hT (by omega) (M i) ?_
      have l21 := qa_le (M i)
      have hl := tp_pl_lt i p
      refine pk_le 21 (f i) (fun x => ?_) (fun x => ?_)
      · refine nm_r (nI_1 i) (ih (i + 1) w (by omega) (by omega) hw (fun l hl' => ?_))
        rw [hb l hl']
        constructor
        · rintro ⟨a, ha, r⟩
          exact ⟨a, by omega, r⟩
        · rintro ⟨a, ha, fa, r⟩
          by_cases q : a = i
          · rw [q] at fa; omega
          · exact ⟨a, by omega, fa, r⟩
      · have go : wY_locations_19 post (nI p) (nI c) fc (tp_I pr) (tp_I so) (tp_I ta) (tp_I rs) (tp_I sg) (tp_I le) (tp_I gr) (tp_I bd) (tp_I ur) ft fd us m (nI (w ||| 2 ^ tp_pl i p)) (nI (i + 1)) := by
          refine ih (i + 1) _ (by omega) (by omega) (qa_or (i := 0) hw hl).1 (fun l hl' => ?_)
          rw [(qa_or hw hl).2, hb l hl']
          constructor
          · rintro (⟨a, ha, r⟩ | e)
            · exact ⟨a, by omega, r⟩
            · exact ⟨i, by omega, by omega, e⟩
          · rintro ⟨a, ha, fa, r⟩
            by_cases q : a = i
            · rw [q] at r; exact Or.inr r
            · exact Or.inl ⟨a, by omega, fa, r⟩
        refine pk_eq p 0 (fun q => ?_) (fun q => ?_)
        · have e : nI i - nI i / 4 * 4 = nI (tp_pl i p) := by
            rw [show (4 : Int32) = nI 4 from rfl, pk_rem (by omega) (by omega) (by omega)]
            unfold tp_pl
            rw [if_pos q]
          rw [e, qa_sh _ hl, bx_or]
          exact ⟨by decide, nm_e (nm_r (nI_1 i) go)⟩
        · have e : nI i / 4 = nI (tp_pl i p) := by
            rw [show (4 : Int32) = nI 4 from rfl, pk_div (by omega) (by omega) (by omega)]
            unfold tp_pl
            rw [if_neg q]
            exact congrArg nI (by omega)
          rw [e, qa_sh _ hl, bx_or]
          exact ⟨by decide, nm_e (nm_r (nI_1 i) go)⟩
end
end
section
/-! the questions -/
theorem i_vc_reached {k : Nat} {u : SX} {v : SY} (I : i_Rel k u v) (hk : k + 5 ≤ 2560) (v1 : Int32) : wpX_reached (fun r u' => wpY_reached (fun r' v' => r' = r ∧ i_Rel (k + 5) u' v') v v1) u v1 := by
  obtain ⟨c, pr, so, ta, rs, sg, le, gr, bd, ur, n0, n1, fd0, ft0, us0, fd1, ft1, us1, G, rfl, rfl⟩ := I
  have same : i_Rel (k + 5) (xs_S c pr so ta rs sg le gr bd ur n0 fd0 ft0 us0) (ys_S c pr so ta rs sg le gr bd ur n1 fd1 ft1 us1) := ⟨c, pr, so, ta, rs, sg, le, gr, bd, ur, n0, n1, fd0, ft0, us0, fd1, ft1, us1, G, rfl, rfl⟩
  unfold wpX_reached
  dsimp only
  refine xm_isPair (fun a => br_f (by decide) ?_) (fun a => br_t rfl ?_)
  rotate_left
  · unfold wpY_reached
    exact ym_badPair (fun h => absurd h a) (fun _ => br_f (by decide) ⟨rfl, same⟩)
  have aa := a
  obtain ⟨a, ha, rfl⟩ := a
  refine xe_explore G ?_
  intro lo n F T U fc fd ft us A O Fi
  have hT : ∀ s, s < 1024 → T s ≤ 21 := fun s hs => rc_T21 O hs
  obtain ⟨v, M⟩ := qa_ex hT a
  have v21 := qa_le M
  have Y : ∀ r : Int32, (v = 21 → (0 : Int32) = r) → (v ≠ 21 → (1 : Int32) = r) → wpY_reached (fun r' v' => r' = r ∧ i_Rel (k + 5) (xs_S c pr so ta rs sg le gr bd ur fc fd ft us) v') (ys_S c pr so ta rs sg le gr bd ur n1 fd1 ft1 us1) (nI a) := by
    intro r h0 h1
    unfold wpY_reached
    refine ym_badPair (fun _ => br_t rfl ?_) (fun h => absurd aa h)
    refine ye_work G ?_
    intro lo' n' F' T' U' fc' fd' ft' us' A' O' Fi'
    have E := (qa_same G Fi Fi').1
    refine qa_yl A' E hT ha M ?_
    have rel : i_Rel (k + 5) (xs_S c pr so ta rs sg le gr bd ur fc fd ft us) (ys_S c pr so ta rs sg le gr bd ur fc' fd' ft' us') := ⟨c, pr, so, ta, rs, sg, le, gr, bd, ur, fc, fc', fd, ft, us, fd', ft', us', G, rfl, rfl⟩
    exact pk_le 21 v (fun z => ⟨h0 (by omega), rel⟩) (fun z => ⟨h1 (by omega), rel⟩)
  refine qa_xl A O ha M ?_
  by_cases z : v = 21
  · exact br_t (by rw [z]; rfl) (Y 0 (fun _ => rfl) (fun h => absurd z h))
  · exact br_f (rc_kx_t _ (by omega)) (Y 1 (fun h => absurd h z) (fun _ => rfl))
theorem i_vc_earliest {k : Nat} {u : SX} {v : SY} (I : i_Rel k u v) (hk : k + 5 ≤ 2560) (v1 : Int32) : wpX_earliest (fun r u' => wpY_earliest (fun r' v' => r' = r ∧ i_Rel (k + 5) u' v') v v1) u v1 := by
  obtain ⟨c, pr, so, ta, rs, sg, le, gr, bd, ur, n0, n1, fd0, ft0, us0, fd1, ft1, us1, G, rfl, rfl⟩ := I
  have same : i_Rel (k + 5) (xs_S c pr so ta rs sg le gr bd ur n0 fd0 ft0 us0) (ys_S c pr so ta rs sg le gr bd ur n1 fd1 ft1 us1) := ⟨c, pr, so, ta, rs, sg, le, gr, bd, ur, n0, n1, fd0, ft0, us0, fd1, ft1, us1, G, rfl, rfl⟩
  unfold wpX_earliest
  dsimp only
  refine xm_isPair (fun a => br_f (by decide) ?_) (fun a => br_t rfl ?_)
  rotate_left
  · unfold wpY_earliest
    exact ym_badPair (fun h => absurd h a) (fun _ => br_f (by decide) ⟨rfl, same⟩)
  have aa := a
  obtain ⟨a, ha, rfl⟩ := a
  refine xe_explore G ?_
  intro lo n F T U fc fd ft us A O Fi
  have hT : ∀ s, s < 1024 → T s ≤ 21 := fun s hs => rc_T21 O hs
  obtain ⟨v, M⟩ := qa_ex hT a
  have v21 := qa_le M
  refine qa_xl A O ha M ?_
  unfold wpY_earliest
  refine ym_badPair (fun _ => br_t rfl ?_) (fun h => absurd aa h)
  refine ye_work G ?_
  intro lo' n' F' T' U' fc' fd' ft' us' A' O' Fi'
  have E := (qa_same G Fi Fi').1
  refine qa_yl A' E hT ha M ?_
  have rel : i_Rel (k + 5) (xs_S c pr so ta rs sg le gr bd ur fc fd ft us) (ys_S c pr so ta rs sg le gr bd ur fc' fd' ft' us') := ⟨c, pr, so, ta, rs, sg, le, gr, bd, ur, fc, fc', fd, ft, us, fd', ft', us', G, rfl, rfl⟩
  exact pk_le 21 v (fun z => ⟨by rw [show v = 21 from by omega]; rfl, rel⟩) (fun z => ⟨(rc_kx_v (by omega)).symm, rel⟩)
theorem i_vc_atMost {k : Nat} {u : SX} {v : SY} (I : i_Rel k u v) (hk : k + 5 ≤ 2560) (v1 : Int32) (v2 : Int32) (v3 : Int32) : wpX_atMost (fun r u' => wpY_atMost (fun r' v' => r' = r ∧ i_Rel (k + 5) u' v') v v1 v2 v3) u v1 v2 v3 := by
  obtain ⟨c, pr, so, ta, rs, sg, le, gr, bd, ur, n0, n1, fd0, ft0, us0, fd1, ft1, us1, G, rfl, rfl⟩ := I
  have same : i_Rel (k + 5) (xs_S c pr so ta rs sg le gr bd ur n0 fd0 ft0 us0) (ys_S c pr so ta rs sg le gr bd ur n1 fd1 ft1 us1) := ⟨c, pr, so, ta, rs, sg, le, gr, bd, ur, n0, n1, fd0, ft0, us0, fd1, ft1, us1, G, rfl, rfl⟩
  have Y0 : ¬ (vr_N v1 16 ∧ vr_N v2 2 ∧ vr_N v3 7) → wpY_atMost (fun r' v' => r' = -1 ∧ i_Rel (k + 5) (xs_S c pr so ta rs sg le gr bd ur n0 fd0 ft0 us0) v') (ys_S c pr so ta rs sg le gr bd ur n1 fd1 ft1 us1) v1 v2 v3 := by
    intro h
    unfold wpY_atMost
    exact ym_badPair (fun a => br_t rfl (vr_lt 1 (fun _ => ⟨rfl, same⟩) (fun b => vr_le 6 (fun _ => ⟨rfl, same⟩) (fun d => absurd ⟨a, b, d⟩ h)))) (fun _ => br_f (by decide) ⟨rfl, same⟩)
  unfold wpX_atMost
  dsimp only
  refine xm_isPair (fun a => br_f (by decide) ?_) (fun a => br_t rfl (Y0 (fun h => a h.1)))
  refine xm_isBit (fun b => br_f (by decide) ?_) (fun b => br_t rfl (Y0 (fun h => b h.2.1)))
  refine xm_isValue (fun d => br_f (by decide) ?_) (fun d => br_t rfl (Y0 (fun h => d h.2.2)))
  have aa := a
  have bb := b
  have dd := d
  obtain ⟨a, ha, rfl⟩ := a
  obtain ⟨b, hb, rfl⟩ := b
  obtain ⟨d, hd, rfl⟩ := d
  refine xe_explore G ?_
  intro lo n F T U fc fd ft us A O Fi
  have hT : ∀ s, s < 1024 → T s ≤ 21 := fun s hs => rc_T21 O hs
  have Y : ∀ r : Int32, (qa_hb T a b 0 d → (1 : Int32) = r) → (¬ qa_hb T a b 0 d → (0 : Int32) = r) → wpY_atMost (fun r' v' => r' = r ∧ i_Rel (k + 5) (xs_S c pr so ta rs sg le gr bd ur fc fd ft us) v') (ys_S c pr so ta rs sg le gr bd ur n1 fd1 ft1 us1) (nI a) (nI b) (nI d) := by
    intro r h1 h0
    unfold wpY_atMost
    refine ym_badPair (fun _ => br_t rfl (vr_lt 1 (fun h => absurd bb h) (fun _ => vr_le 6 (fun h => absurd dd h) (fun _ => ?_)))) (fun h => absurd aa h)
    refine ye_work G ?_
    intro lo' n' F' T' U' fc' fd' ft' us' A' O' Fi'
    have E := (qa_same G Fi Fi').1
    have rel : i_Rel (k + 5) (xs_S c pr so ta rs sg le gr bd ur fc fd ft us) (ys_S c pr so ta rs sg le gr bd ur fc' fd' ft' us') := ⟨c, pr, so, ta, rs, sg, le, gr, bd, ur, fc, fc', fd, ft, us, fd', ft', us', G, rfl, rfl⟩
    refine nm_r (show (64 : Int32) * nI a = nI (64 * a) from by rw [show (64 : Int32) = nI 64 from rfl, pk_mul]) ⟨64 + 1, ?_⟩
    exact qa_ym39 A' E hT ha hb hd (fun q => ⟨h1 q, rel⟩) (fun q => ⟨h0 q, rel⟩) (64 + 1) (64 * a) (by omega) (by omega) (by omega) (fun q h1 h2 => absurd h1 (by omega))
  exact qa_xh (low := 0) (high := d) A O ha hb (by omega) (by omega) (fun q => br_f (by decide) (Y 1 (fun _ => rfl) (fun h => absurd q h))) (fun q => br_t rfl (Y 0 (fun h => absurd h q) (fun _ => rfl)))
theorem i_vc_atLeast {k : Nat} {u : SX} {v : SY} (I : i_Rel k u v) (hk : k + 5 ≤ 2560) (v1 : Int32) (v2 : Int32) (v3 : Int32) : wpX_atLeast (fun r u' => wpY_atLeast (fun r' v' => r' = r ∧ i_Rel (k + 5) u' v') v v1 v2 v3) u v1 v2 v3 := by
  obtain ⟨c, pr, so, ta, rs, sg, le, gr, bd, ur, n0, n1, fd0, ft0, us0, fd1, ft1, us1, G, rfl, rfl⟩ := I
  have same : i_Rel (k + 5) (xs_S c pr so ta rs sg le gr bd ur n0 fd0 ft0 us0) (ys_S c pr so ta rs sg le gr bd ur n1 fd1 ft1 us1) := ⟨c, pr, so, ta, rs, sg, le, gr, bd, ur, n0, n1, fd0, ft0, us0, fd1, ft1, us1, G, rfl, rfl⟩
  have Y0 : ¬ (vr_N v1 16 ∧ vr_N v2 2 ∧ vr_N v3 7) → wpY_atLeast (fun r' v' => r' = -1 ∧ i_Rel (k + 5) (xs_S c pr so ta rs sg le gr bd ur n0 fd0 ft0 us0) v') (ys_S c pr so ta rs sg le gr bd ur n1 fd1 ft1 us1) v1 v2 v3 := by
    intro h
    unfold wpY_atLeast
    exact ym_badPair (fun a => br_t rfl (vr_lt 1 (fun _ => ⟨rfl, same⟩) (fun b => vr_le 6 (fun _ => ⟨rfl, same⟩) (fun d => absurd ⟨a, b, d⟩ h)))) (fun _ => br_f (by decide) ⟨rfl, same⟩)
  unfold wpX_atLeast
  dsimp only
  refine xm_isPair (fun a => br_f (by decide) ?_) (fun a => br_t rfl (Y0 (fun h => a h.1)))
  refine xm_isBit (fun b => br_f (by decide) ?_) (fun b => br_t rfl (Y0 (fun h => b h.2.1)))
  refine xm_isValue (fun d => br_f (by decide) ?_) (fun d => br_t rfl (Y0 (fun h => d h.2.2)))
  have aa := a
  have bb := b
  have dd := d
  obtain ⟨a, ha, rfl⟩ := a
  obtain ⟨b, hb, rfl⟩ := b
  obtain ⟨d, hd, rfl⟩ := d
  refine xe_explore G ?_
  intro lo n F T U fc fd ft us A O Fi
  have hT : ∀ s, s < 1024 → T s ≤ 21 := fun s hs => rc_T21 O hs
  have Y : ∀ r : Int32, (qa_hb T a b d 7 → (1 : Int32) = r) → (¬ qa_hb T a b d 7 → (0 : Int32) = r) → wpY_atLeast (fun r' v' => r' = r ∧ i_Rel (k + 5) (xs_S c pr so ta rs sg le gr bd ur fc fd ft us) v') (ys_S c pr so ta rs sg le gr bd ur n1 fd1 ft1 us1) (nI a) (nI b) (nI d) := by
    intro r h1 h0
    unfold wpY_atLeast
    refine ym_badPair (fun _ => br_t rfl (vr_lt 1 (fun h => absurd bb h) (fun _ => vr_le 6 (fun h => absurd dd h) (fun _ => ?_)))) (fun h => absurd aa h)
    refine ye_work G ?_
    intro lo' n' F' T' U' fc' fd' ft' us' A' O' Fi'
    have E := (qa_same G Fi Fi').1
    have rel : i_Rel (k + 5) (xs_S c pr so ta rs sg le gr bd ur fc fd ft us) (ys_S c pr so ta rs sg le gr bd ur fc' fd' ft' us') := ⟨c, pr, so, ta, rs, sg, le, gr, bd, ur, fc, fc', fd, ft, us, fd', ft', us', G, rfl, rfl⟩
    refine nm_r (show (64 : Int32) * nI a = nI (64 * a) from by rw [show (64 : Int32) = nI 64 from rfl, pk_mul]) ⟨64 + 1, ?_⟩
    exact qa_yk39 A' E hT ha hb hd (fun q => ⟨h1 q, rel⟩) (fun q => ⟨h0 q, rel⟩) (64 + 1) (64 * a) (by omega) (by omega) (by omega) (fun q h1 h2 => absurd h1 (by omega))
  exact qa_xh (low := d) (high := 7) A O ha hb (by omega) (by omega) (fun q => br_f (by decide) (Y 1 (fun _ => rfl) (fun h => absurd q h))) (fun q => br_t rfl (Y 0 (fun h => absurd h q) (fun _ => rfl)))
theorem i_vc_pairs {k : Nat} {u : SX} {v : SY} (I : i_Rel k u v) (hk : k + 5 ≤ 2560) : wpX_pairs (fun r u' => wpY_pairs (fun r' v' => r' = r ∧ i_Rel (k + 5) u' v') v) u := by
  obtain ⟨c, pr, so, ta, rs, sg, le, gr, bd, ur, n0, n1, fd0, ft0, us0, fd1, ft1, us1, G, rfl, rfl⟩ := I
  unfold wpX_pairs
  dsimp only
  refine xe_explore G ?_
  intro lo n F T U fc fd ft us A O Fi
  have hT : ∀ s, s < 1024 → T s ≤ 21 := fun s hs => rc_T21 O hs
  obtain ⟨f, M⟩ : ∃ f : Nat → Nat, ∀ a, qa_mn T a (f a) := ⟨fun a => Classical.choose (qa_ex hT a), fun a => Classical.choose_spec (qa_ex hT a)⟩
  refine ⟨16 + 1, qa_xp A O M ?_ (16 + 1) 0 (by omega) (by omega)⟩
  unfold wpY_pairs
  dsimp only
  refine ye_work G ?_
  intro lo' n' F' T' U' fc' fd' ft' us' A' O' Fi'
  have E := (qa_same G Fi Fi').1
  have rel : i_Rel (k + 5) (xs_S c pr so ta rs sg le gr bd ur fc fd ft us) (ys_S c pr so ta rs sg le gr bd ur fc' fd' ft' us') := ⟨c, pr, so, ta, rs, sg, le, gr, bd, ur, fc, fc', fd, ft, us, fd', ft', us', G, rfl, rfl⟩
  exact ⟨16 + 1, qa_yp A' E hT M ⟨rfl, rel⟩ (16 + 1) 0 (by omega) (by omega)⟩
theorem i_vc_locations {k : Nat} {u : SX} {v : SY} (I : i_Rel k u v) (hk : k + 5 ≤ 2560) (v1 : Int32) : wpX_locations (fun r u' => wpY_locations (fun r' v' => r' = r ∧ i_Rel (k + 5) u' v') v v1) u v1 := by
  obtain ⟨c, pr, so, ta, rs, sg, le, gr, bd, ur, n0, n1, fd0, ft0, us0, fd1, ft1, us1, G, rfl, rfl⟩ := I
  have same : i_Rel (k + 5) (xs_S c pr so ta rs sg le gr bd ur n0 fd0 ft0 us0) (ys_S c pr so ta rs sg le gr bd ur n1 fd1 ft1 us1) := ⟨c, pr, so, ta, rs, sg, le, gr, bd, ur, n0, n1, fd0, ft0, us0, fd1, ft1, us1, G, rfl, rfl⟩
  unfold wpX_locations
  dsimp only
  refine xm_isBit (fun a => br_f (by decide) ?_) (fun a => br_t rfl (vr_le 1 (fun _ => ⟨rfl, same⟩) (fun h => absurd h a)))
  have aa := a
  obtain ⟨a, ha, rfl⟩ := a
  refine xe_explore G ?_
  intro lo n F T U fc fd ft us A O Fi
  have hT : ∀ s, s < 1024 → T s ≤ 21 := fun s hs => rc_T21 O hs
  obtain ⟨f, M⟩ : ∃ f : Nat → Nat, ∀ a, qa_mn T a (f a) := ⟨fun a => Classical.choose (qa_ex hT a), fun a => Classical.choose_spec (qa_ex hT a)⟩
  refine ⟨n + 1, qa_xo A O ha ?_ (n + 1) 0 0 (by omega) (by omega) (by omega) (fun l hl => ?_)⟩
  · intro m L
    refine vr_le 1 (fun h => absurd aa h) (fun _ => ?_)
    refine ye_work G ?_
    intro lo' n' F' T' U' fc' fd' ft' us' A' O' Fi'
    have E := (qa_same G Fi Fi').1
    have rel : i_Rel (k + 5) (xs_S c pr so ta rs sg le gr bd ur fc fd ft us) (ys_S c pr so ta rs sg le gr bd ur fc' fd' ft' us') := ⟨c, pr, so, ta, rs, sg, le, gr, bd, ur, fc, fc', fd, ft, us, fd', ft', us', G, rfl, rfl⟩
    refine ⟨16 + 1, qa_yo A' E hT M ha ?_ (16 + 1) 0 0 (by omega) (by omega) (by omega) (fun l hl => ?_)⟩
    · intro m' L'
      exact ⟨by rw [qa_L_uni L L'], rel⟩
    · rw [Nat.zero_testBit]
      exact ⟨fun h => absurd h (by decide), fun ⟨j, hj, _⟩ => absurd hj (by omega)⟩
  · rw [Nat.zero_testBit]
    exact ⟨fun h => absurd h (by decide), fun ⟨j, hj, _⟩ => absurd hj (by omega)⟩
theorem i_vc_usable {k : Nat} {u : SX} {v : SY} (I : i_Rel k u v) (hk : k + 5 ≤ 2560) (v1 : Int32) : wpX_usable (fun r u' => wpY_usable (fun r' v' => r' = r ∧ i_Rel (k + 5) u' v') v v1) u v1 := by
  obtain ⟨c, pr, so, ta, rs, sg, le, gr, bd, ur, n0, n1, fd0, ft0, us0, fd1, ft1, us1, G, rfl, rfl⟩ := I
  have c12 := G.1
  have same : i_Rel (k + 5) (xs_S c pr so ta rs sg le gr bd ur n0 fd0 ft0 us0) (ys_S c pr so ta rs sg le gr bd ur n1 fd1 ft1 us1) := ⟨c, pr, so, ta, rs, sg, le, gr, bd, ur, n0, n1, fd0, ft0, us0, fd1, ft1, us1, G, rfl, rfl⟩
  unfold wpX_usable
  dsimp only
  refine xm_isEdge G (fun a => br_f (by decide) ?_) (fun a => br_t rfl ?_)
  rotate_left
  · unfold wpY_usable
    exact ym_isEdge G (fun h => absurd h a) (fun _ => br_t rfl ⟨rfl, same⟩)
  have aa := a
  obtain ⟨a, ha, rfl⟩ := a
  have ha' : a < 12 := by omega
  rw [nI_clamp (show a < 2 ^ 31 by omega)]
  refine xe_explore G ?_
  intro lo n F T U fc fd ft us A O Fi
  have u21 := rc_U21 O a
  have Y : ∀ r : Int32, (U a = 21 → (0 : Int32) = r) → (U a ≠ 21 → (1 : Int32) = r) → wpY_usable (fun r' v' => r' = r ∧ i_Rel (k + 5) (xs_S c pr so ta rs sg le gr bd ur fc fd ft us) v') (ys_S c pr so ta rs sg le gr bd ur n1 fd1 ft1 us1) (nI a) := by
    intro r h0 h1
    unfold wpY_usable
    dsimp only
    rw [nI_clamp (show a < 2 ^ 31 by omega)]
    refine ym_isEdge G (fun _ => br_f (by decide) ?_) (fun h => absurd aa h)
    refine ye_work G ?_
    intro lo' n' F' T' U' fc' fd' ft' us' A' O' Fi'
    have E := (qa_same G Fi Fi').2 a
    have rel : i_Rel (k + 5) (xs_S c pr so ta rs sg le gr bd ur fc fd ft us) (ys_S c pr so ta rs sg le gr bd ur fc' fd' ft' us') := ⟨c, pr, so, ta, rs, sg, le, gr, bd, ur, fc, fc', fd, ft, us, fd', ft', us', G, rfl, rfl⟩
    have e : us' a = nI (U a) := by rw [A'.2.2.2 a ha', E]; rfl
    exact ⟨vp_in_nI ha' (by omega), pk_le 21 (U a) (fun z => ⟨h0 (by omega), rel⟩) (fun z => ⟨h1 (by omega), rel⟩) rfl e⟩
  refine ⟨vp_in_nI ha' (by omega), ?_⟩
  have e : us a = rc_kx (U a) := A.2.2.2 a ha'
  by_cases z : U a = 21
  · exact br_t (by rw [z] at e; exact e) (Y 0 (fun _ => rfl) (fun h => absurd z h))
  · exact br_f (fun h => rc_kx_t _ (by omega) (e.symm.trans h)) (Y 1 (fun h => absurd h z) (fun _ => rfl))
theorem i_vc_firstUse {k : Nat} {u : SX} {v : SY} (I : i_Rel k u v) (hk : k + 5 ≤ 2560) (v1 : Int32) : wpX_firstUse (fun r u' => wpY_firstUse (fun r' v' => r' = r ∧ i_Rel (k + 5) u' v') v v1) u v1 := by
  obtain ⟨c, pr, so, ta, rs, sg, le, gr, bd, ur, n0, n1, fd0, ft0, us0, fd1, ft1, us1, G, rfl, rfl⟩ := I
  have c12 := G.1
  have same : i_Rel (k + 5) (xs_S c pr so ta rs sg le gr bd ur n0 fd0 ft0 us0) (ys_S c pr so ta rs sg le gr bd ur n1 fd1 ft1 us1) := ⟨c, pr, so, ta, rs, sg, le, gr, bd, ur, n0, n1, fd0, ft0, us0, fd1, ft1, us1, G, rfl, rfl⟩
  unfold wpX_firstUse
  dsimp only
  refine xm_isEdge G (fun a => br_f (by decide) ?_) (fun a => br_t rfl ?_)
  rotate_left
  · unfold wpY_firstUse
    exact ym_isEdge G (fun h => absurd h a) (fun _ => br_t rfl ⟨rfl, same⟩)
  have aa := a
  obtain ⟨a, ha, rfl⟩ := a
  have ha' : a < 12 := by omega
  rw [nI_clamp (show a < 2 ^ 31 by omega)]
  refine xe_explore G ?_
  intro lo n F T U fc fd ft us A O Fi
  have u21 := rc_U21 O a
  have ex : us a = rc_kx (U a) := A.2.2.2 a ha'
  refine ⟨vp_in_nI ha' (by omega), ?_⟩
  unfold wpY_firstUse
  dsimp only
  rw [nI_clamp (show a < 2 ^ 31 by omega)]
  refine ym_isEdge G (fun _ => br_f (by decide) ?_) (fun h => absurd aa h)
  refine ye_work G ?_
  intro lo' n' F' T' U' fc' fd' ft' us' A' O' Fi'
  have E := (qa_same G Fi Fi').2 a
  have rel : i_Rel (k + 5) (xs_S c pr so ta rs sg le gr bd ur fc fd ft us) (ys_S c pr so ta rs sg le gr bd ur fc' fd' ft' us') := ⟨c, pr, so, ta, rs, sg, le, gr, bd, ur, fc, fc', fd, ft, us, fd', ft', us', G, rfl, rfl⟩
  have e : us' a = nI (U a) := by rw [A'.2.2.2 a ha', E]; rfl
  refine ⟨vp_in_nI ha' (by omega), pk_le 21 (U a) (fun z => ⟨?_, rel⟩) (fun z => ⟨vp_in_nI ha' (by omega), ?_, rel⟩) rfl e⟩
  · refine Eq.trans ?_ ex.symm
    rw [show U a = 21 from by omega]; rfl
  · refine Eq.trans e (Eq.trans ?_ ex.symm)
    exact (rc_kx_v (by omega)).symm
end
