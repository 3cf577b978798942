/-! The search, without any bytecode: T s = 21 says that state s is not found, U e = 21 that edge e is not used.
    mv e f s s': a move by the edges e and f (e = f: a silent one) from s to s'; wt s s': waiting by one. -/
def rc_up (f : Nat → Nat) (k v : Nat) : Nat → Nat := fun j => if j = k then v else f j
theorem rc_us {f : Nat → Nat} {k v : Nat} : rc_up f k v k = v := if_pos rfl
theorem rc_un {f : Nat → Nat} {k v j : Nat} (h : j ≠ k) : rc_up f k v j = f j := if_neg h
/-- how many states below k are found -/
def rc_cn (T : Nat → Nat) : Nat → Nat
  | 0 => 0
  | k + 1 => rc_cn T k + (if T k = 21 then 0 else 1)
theorem rc_cn_le (T : Nat → Nat) : ∀ k, rc_cn T k ≤ k := by
  intro k
  induction k with
  | zero => exact Nat.le_refl 0
  | succ k ih =>
    show rc_cn T k + (if T k = 21 then 0 else 1) ≤ k + 1
    split <;> omega
theorem rc_cn_lt {T : Nat → Nat} {s : Nat} (h : T s = 21) : ∀ k, s < k → rc_cn T k < k := by
  intro k
  induction k with
  | zero => intro hs; omega
  | succ k ih =>
    intro hs
    show rc_cn T k + (if T k = 21 then 0 else 1) < k + 1
    by_cases e : s = k
    · subst e
      rw [if_pos h]
      have := rc_cn_le T s
      omega
    · have := ih (by omega)
      split <;> omega
theorem rc_cn_eq {T T' : Nat → Nat} : ∀ k, (∀ s, s < k → T' s = T s) → rc_cn T' k = rc_cn T k := by
  intro k
  induction k with
  | zero => intro _; rfl
  | succ k ih =>
    intro h
    show rc_cn T' k + (if T' k = 21 then 0 else 1) = rc_cn T k + (if T k = 21 then 0 else 1)
    rw [ih (fun s hs => h s (by omega)), h k (by omega)]
theorem rc_cn_up {T : Nat → Nat} {s t : Nat} (h : T s = 21) (ht : t ≠ 21) : ∀ k, s < k → rc_cn (rc_up T s t) k = rc_cn T k + 1 := by
  intro k
  induction k with
  | zero => intro hs; omega
  | succ k ih =>
    intro hs
    show rc_cn (rc_up T s t) k + (if rc_up T s t k = 21 then 0 else 1) = rc_cn T k + (if T k = 21 then 0 else 1) + 1
    by_cases e : s = k
    · subst e
      rw [rc_us, if_neg ht, if_pos h, rc_cn_eq s (fun j hj => rc_un (by omega))]
    · rw [ih (by omega), rc_un (fun z => e z.symm)]
      omega
theorem rc_cn_0 {T : Nat → Nat} : ∀ k, (∀ s, s < k → T s = 21) → rc_cn T k = 0 := by
  intro k
  induction k with
  | zero => intro _; rfl
  | succ k ih =>
    intro h
    show rc_cn T k + (if T k = 21 then 0 else 1) = 0
    rw [ih (fun s hs => h s (by omega)), if_pos (h k (by omega))]
section
variable (mv : Nat → Nat → Nat → Nat → Prop) (wt : Nat → Nat → Prop)
/-- state s is reached at time t -/
def rc_R (s t : Nat) : Prop := ∀ P : Nat → Nat → Prop, P 0 0 → (∀ e f s s' t, P s t → mv e f s s' → P s' t) → (∀ s s' t, P s t → t < 20 → wt s s' → P s' (t + 1)) → P s t
theorem rc_R0 : rc_R mv wt 0 0 := fun _ h _ _ => h
theorem rc_Rm {e f s s' t : Nat} (h : rc_R mv wt s t) (m : mv e f s s') : rc_R mv wt s' t := fun P a b c => b e f s s' t (h P a b c) m
theorem rc_Rw {s s' t : Nat} (h : rc_R mv wt s t) (ht : t < 20) (w : wt s s') : rc_R mv wt s' (t + 1) := fun P a b c => c s s' t (h P a b c) ht w
/-- edge e is used at time t -/
def rc_V (e t : Nat) : Prop := ∃ f s s', rc_R mv wt s t ∧ (mv e f s s' ∨ mv f e s s')
/-- the search so far: n states found, in the order of F; none later than h, those from lo on at h -/
def rc_Ok (lo h n : Nat) (F T U : Nat → Nat) : Prop :=
  n = rc_cn T 1024 ∧ h ≤ 20 ∧ lo ≤ n ∧ (∀ i, i < n → F i < 1024 ∧ T (F i) ≤ h ∧ rc_R mv wt (F i) (T (F i))) ∧ (∀ i, lo ≤ i → i < n → T (F i) = h) ∧ (∀ s, s < 1024 → T s = 21 ∨ ∃ i, i < n ∧ F i = s) ∧ (∀ e, U e = 21 ∨ (U e ≤ h ∧ rc_V mv wt e (U e))) ∧ (∀ i j, i ≤ j → j < n → T (F i) ≤ T (F j))
/-- the second is the first, further on -/
def rc_Le (n : Nat) (F T U : Nat → Nat) (n' : Nat) (F' T' U' : Nat → Nat) : Prop :=
  n ≤ n' ∧ (∀ i, i < n → F' i = F i) ∧ (∀ s, T s ≠ 21 → T' s = T s) ∧ (∀ e, U e ≠ 21 → U' e = U e)
theorem rc_Le_rf {n : Nat} {F T U : Nat → Nat} : rc_Le n F T U n F T U := ⟨Nat.le_refl n, fun _ _ => rfl, fun _ _ => rfl, fun _ _ => rfl⟩
theorem rc_Le_tr {n n' n'' : Nat} {F T U F' T' U' F'' T'' U'' : Nat → Nat} (a : rc_Le n F T U n' F' T' U') (b : rc_Le n' F' T' U' n'' F'' T'' U'') : rc_Le n F T U n'' F'' T'' U'' := by
  obtain ⟨a1, a2, a3, a4⟩ := a
  obtain ⟨b1, b2, b3, b4⟩ := b
  refine ⟨Nat.le_trans a1 b1, fun i hi => (b2 i (by omega)).trans (a2 i hi), fun s hs => ?_, fun e he => ?_⟩
  · rw [b3 s (by rw [a3 s hs]; exact hs), a3 s hs]
  · rw [b4 e (by rw [a4 e he]; exact he), a4 e he]
theorem rc_le_T {T T' : Nat → Nat} {s h : Nat} (hh : h ≤ 20) (a : ∀ s, T s ≠ 21 → T' s = T s) (b : T s ≤ h) : T' s ≤ h := by
  rw [a s (by omega)]; exact b
theorem rc_Ok_T {lo h n : Nat} {F T U : Nat → Nat} (O : rc_Ok mv wt lo h n F T U) {s : Nat} (hs : s < 1024) (hT : T s ≠ 21) : T s ≤ h := by
  obtain ⟨_, _, _, o4, _, o6, _, _⟩ := O
  rcases o6 s hs with z | ⟨i, hi, e⟩
  · exact absurd z hT
  · rw [← e]; exact (o4 i hi).2.1
theorem rc_Ok_R {lo h n : Nat} {F T U : Nat → Nat} (O : rc_Ok mv wt lo h n F T U) {s : Nat} (hs : s < 1024) (hT : T s ≠ 21) : rc_R mv wt s (T s) := by
  obtain ⟨_, _, _, o4, _, o6, _, _⟩ := O
  rcases o6 s hs with z | ⟨i, hi, e⟩
  · exact absurd z hT
  · rw [← e]; exact (o4 i hi).2.2
theorem rc_Ok_n {lo h n : Nat} {F T U : Nat → Nat} (O : rc_Ok mv wt lo h n F T U) : n ≤ 1024 := by
  rw [O.1]; exact rc_cn_le T 1024
theorem rc_Ok_U {lo h n : Nat} {F T U : Nat → Nat} (O : rc_Ok mv wt lo h n F T U) {e : Nat} (he : U e ≠ 21) : U e ≤ h := by
  obtain ⟨_, _, _, _, _, _, o7, _⟩ := O
  rcases o7 e with z | z
  · exact absurd z he
  · exact z.1
theorem rc_note {lo h n : Nat} {F T U : Nat → Nat} {s : Nat} (O : rc_Ok mv wt lo h n F T U) (hs : s < 1024) (hT : T s = 21) (hR : rc_R mv wt s h) :
    n < 1024 ∧ rc_Ok mv wt lo h (n + 1) (rc_up F n s) (rc_up T s h) U ∧ rc_Le n F T U (n + 1) (rc_up F n s) (rc_up T s h) U := by
  obtain ⟨o1, o2, o3, o4, o5, o6, o7, o8⟩ := O
  have hn : n < 1024 := by rw [o1]; exact rc_cn_lt hT 1024 hs
  have hF : ∀ i, i < n → F i ≠ s := by
    intro i hi e
    have := (o4 i hi).2.1
    rw [e, hT] at this
    omega
  refine ⟨hn, ⟨?_, o2, by omega, ?_, ?_, ?_, o7, ?_⟩, ⟨by omega, ?_, ?_, fun _ _ => rfl⟩⟩
  · rw [rc_cn_up hT (by omega) 1024 hs, o1]
  · intro i hi
    by_cases e : i = n
    · subst e
      rw [rc_us, rc_us]
      exact ⟨hs, Nat.le_refl h, hR⟩
    · rw [rc_un e, rc_un (hF i (by omega))]
      exact o4 i (by omega)
  · intro i h1 h2
    by_cases e : i = n
    · subst e
      rw [rc_us, rc_us]
    · rw [rc_un e, rc_un (hF i (by omega))]
      exact o5 i h1 (by omega)
  · intro q hq
    by_cases e : q = s
    · exact Or.inr ⟨n, by omega, by rw [rc_us, e]⟩
    · rw [rc_un e]
      rcases o6 q hq with z | ⟨i, hi, z⟩
      · exact Or.inl z
      · exact Or.inr ⟨i, by omega, by rw [rc_un (by omega)]; exact z⟩
  · intro i j hij hj
    by_cases ej : j = n
    · subst ej
      rw [rc_us, rc_us]
      by_cases ei : i = j
      · subst ei
        rw [rc_us, rc_us]
        exact Nat.le_refl h
      · rw [rc_un ei, rc_un (hF i (by omega))]
        exact (o4 i (by omega)).2.1
    · rw [rc_un ej, rc_un (hF j (by omega)), rc_un (show i ≠ n by omega), rc_un (hF i (by omega))]
      exact o8 i j hij (by omega)
  · intro i hi
    exact rc_un (by omega)
  · intro q hq
    exact rc_un (fun e => hq (by rw [e]; exact hT))
theorem rc_use {lo h n : Nat} {F T U : Nat → Nat} {e : Nat} (O : rc_Ok mv wt lo h n F T U) (hU : U e = 21) (hV : rc_V mv wt e h) :
    rc_Ok mv wt lo h n F T (rc_up U e h) ∧ rc_Le n F T U n F T (rc_up U e h) := by
  obtain ⟨o1, o2, o3, o4, o5, o6, o7, o8⟩ := O
  refine ⟨⟨o1, o2, o3, o4, o5, o6, ?_, o8⟩, ⟨Nat.le_refl n, fun _ _ => rfl, fun _ _ => rfl, ?_⟩⟩
  · intro g
    by_cases z : g = e
    · subst z
      rw [rc_us]
      exact Or.inr ⟨Nat.le_refl h, hV⟩
    · rw [rc_un z]
      exact o7 g
  · intro g hg
    exact rc_un (fun z => hg (by rw [z]; exact hU))
/-- the next time: those found from here on are found at h + 1 -/
theorem rc_next {lo h n : Nat} {F T U : Nat → Nat} (O : rc_Ok mv wt lo h n F T U) (hh : h < 20) : rc_Ok mv wt n (h + 1) n F T U := by
  obtain ⟨o1, o2, o3, o4, o5, o6, o7, o8⟩ := O
  refine ⟨o1, by omega, Nat.le_refl n, fun i hi => ⟨(o4 i hi).1, Nat.le_succ_of_le (o4 i hi).2.1, (o4 i hi).2.2⟩, fun i h1 h2 => by omega, o6, fun e => ?_, o8⟩
  rcases o7 e with z | z
  · exact Or.inl z
  · exact Or.inr ⟨Nat.le_succ_of_le z.1, z.2⟩
/-- the beginning -/
theorem rc_begin {F T U : Nat → Nat} (hT : ∀ s, s < 1024 → T s = 21) (hU : ∀ e, U e = 21) : rc_Ok mv wt 0 0 0 F T U :=
  ⟨(rc_cn_0 1024 hT).symm, by omega, by omega, fun i hi => by omega, fun i _ hi => by omega, fun s hs => Or.inl (hT s hs), fun e => Or.inl (hU e), fun i j _ hj => by omega⟩
/-- what the moves from the i-th state lead to is found; what waiting leads to is found -/
def rc_Dm (F T U : Nat → Nat) (i : Nat) : Prop := ∀ e f s', mv e f (F i) s' → T s' ≤ T (F i) ∧ U e ≤ T (F i) ∧ U f ≤ T (F i)
def rc_Dw (F T : Nat → Nat) (i : Nat) : Prop := ∀ s', T (F i) < 20 → wt (F i) s' → T s' ≤ T (F i) + 1
theorem rc_Dm_le {lo h n n' : Nat} {F T U F' T' U' : Nat → Nat} (O : rc_Ok mv wt lo h n F T U) (L : rc_Le n F T U n' F' T' U') {i : Nat} (hi : i < n) (D : rc_Dm mv F T U i) : rc_Dm mv F' T' U' i := by
  intro e f s' m
  have hF := L.2.1 i hi
  have hT : T (F i) ≤ h := (O.2.2.2.1 i hi).2.1
  have hh : h ≤ 20 := O.2.1
  rw [hF] at m ⊢
  obtain ⟨d1, d2, d3⟩ := D e f s' m
  rw [L.2.2.1 (F i) (by omega), L.2.2.1 s' (by omega), L.2.2.2 e (by omega), L.2.2.2 f (by omega)]
  exact ⟨d1, d2, d3⟩
theorem rc_Dw_le {lo h n n' : Nat} {F T U F' T' U' : Nat → Nat} (O : rc_Ok mv wt lo h n F T U) (L : rc_Le n F T U n' F' T' U') {i : Nat} (hi : i < n) (D : rc_Dw wt F T i) : rc_Dw wt F' T' i := by
  intro s' h1 w
  have hF := L.2.1 i hi
  have hT : T (F i) ≤ h := (O.2.2.2.1 i hi).2.1
  have hh : h ≤ 20 := O.2.1
  rw [hF] at h1 w ⊢
  rw [L.2.2.1 (F i) (by omega)] at h1 ⊢
  have d := D s' h1 w
  rw [L.2.2.1 s' (by omega)]
  exact d
/-- what the search has found when it is through: of each state and of each edge the least time -/
def rc_Fin (T U : Nat → Nat) : Prop :=
  (∀ s, s < 1024 → (T s = 21 ∨ (T s ≤ 20 ∧ rc_R mv wt s (T s))) ∧ (∀ t, rc_R mv wt s t → T s ≤ t)) ∧ (∀ e, (U e = 21 ∨ (U e ≤ 20 ∧ rc_V mv wt e (U e))) ∧ (∀ t, rc_V mv wt e t → U e ≤ t))
theorem rc_fin {lo h n : Nat} {F T U : Nat → Nat} (hm : ∀ e f s s', s < 1024 → mv e f s s' → s' < 1024) (hw : ∀ s s', s < 1024 → wt s s' → s' < 1024)
    (O : rc_Ok mv wt lo h n F T U) (h0 : T 0 = 0) (D : ∀ i, i < n → rc_Dm mv F T U i ∧ rc_Dw wt F T i) : rc_Fin mv wt T U := by
  have hh : h ≤ 20 := O.2.1
  have all : ∀ s t, rc_R mv wt s t → s < 1024 ∧ T s ≤ t ∧ t ≤ 20 := by
    intro s t r
    refine r (fun s t => s < 1024 ∧ T s ≤ t ∧ t ≤ 20) ⟨by omega, by omega, by omega⟩ ?_ ?_
    · intro e f s s' t ⟨a, b, c⟩ m
      refine ⟨hm e f s s' a m, ?_, c⟩
      rcases O.2.2.2.2.2.1 s a with z | ⟨i, hi, z⟩
      · omega
      · subst z
        have := ((D i hi).1 e f s' m).1
        omega
    · intro s s' t ⟨a, b, c⟩ ht w
      refine ⟨hw s s' a w, ?_, by omega⟩
      rcases O.2.2.2.2.2.1 s a with z | ⟨i, hi, z⟩
      · omega
      · subst z
        have := (D i hi).2 s' (by omega) w
        omega
  refine ⟨fun s hs => ⟨?_, fun t r => (all s t r).2.1⟩, fun e => ⟨?_, ?_⟩⟩
  · by_cases z : T s = 21
    · exact Or.inl z
    · exact Or.inr ⟨Nat.le_trans (rc_Ok_T mv wt O hs z) hh, rc_Ok_R mv wt O hs z⟩
  · rcases O.2.2.2.2.2.2.1 e with z | z
    · exact Or.inl z
    · exact Or.inr ⟨Nat.le_trans z.1 hh, z.2⟩
  · intro t ⟨f, s, s', r, m⟩
    obtain ⟨a, b, c⟩ := all s t r
    rcases O.2.2.2.2.2.1 s a with z | ⟨i, hi, z⟩
    · omega
    · subst z
      rcases m with m | m
      · have := ((D i hi).1 e f s' m).2.1
        omega
      · have := ((D i hi).1 f e s' m).2.2
        omega
end
/-- the least time is one number -/
theorem rc_uni {a b : Nat} {Q : Nat → Prop} (a1 : a = 21 ∨ (a ≤ 20 ∧ Q a)) (a2 : ∀ t, Q t → a ≤ t) (b1 : b = 21 ∨ (b ≤ 20 ∧ Q b)) (b2 : ∀ t, Q t → b ≤ t) : a = b := by
  rcases a1 with z | ⟨z, qa⟩
  · rcases b1 with w | ⟨w, qb⟩
    · rw [z, w]
    · have := a2 b qb
      omega
  · have h1 := b2 a qa
    rcases b1 with w | ⟨w, qb⟩
    · omega
    · have h2 := a2 b qb
      omega
section
variable (mv : Nat → Nat → Nat → Nat → Prop) (wt : Nat → Nat → Prop) (ph ps : Nat → Nat)
/-- the same moves in another code of the states: ph reads it -/
def rc_mY (e f s s' : Nat) : Prop := s' < 1024 ∧ mv e f (ph s) (ph s')
def rc_wY (s s' : Nat) : Prop := s' < 1024 ∧ wt (ph s) (ph s')
theorem rc_toX (h0 : ph 0 = 0) {s t : Nat} (r : rc_R (rc_mY mv ph) (rc_wY wt ph) s t) : rc_R mv wt (ph s) t := by
  refine r (fun s t => rc_R mv wt (ph s) t) ?_ ?_ ?_
  · show rc_R mv wt (ph 0) 0
    rw [h0]; exact rc_R0 mv wt
  · intro e f s s' t a m; exact rc_Rm mv wt a m.2
  · intro s s' t a ht w; exact rc_Rw mv wt a ht w.2
theorem rc_toY (h0 : ps 0 = 0) (hp : ∀ s, s < 1024 → ps s < 1024 ∧ ph (ps s) = s) (hm : ∀ e f s s', s < 1024 → mv e f s s' → s' < 1024) (hw : ∀ s s', s < 1024 → wt s s' → s' < 1024)
    {s t : Nat} (r : rc_R mv wt s t) : s < 1024 ∧ rc_R (rc_mY mv ph) (rc_wY wt ph) (ps s) t := by
  refine r (fun s t => s < 1024 ∧ rc_R (rc_mY mv ph) (rc_wY wt ph) (ps s) t) ⟨by omega, ?_⟩ ?_ ?_
  · rw [h0]; exact rc_R0 _ _
  · intro e f s s' t ⟨a, b⟩ m
    have l := hm e f s s' a m
    refine ⟨l, rc_Rm _ _ b (e := e) (f := f) ⟨(hp s' l).1, ?_⟩⟩
    rw [(hp s a).2, (hp s' l).2]; exact m
  · intro s s' t ⟨a, b⟩ ht w
    have l := hw s s' a w
    refine ⟨l, rc_Rw _ _ b ht ⟨(hp s' l).1, ?_⟩⟩
    rw [(hp s a).2, (hp s' l).2]; exact w
theorem rc_same {T U T' U' : Nat → Nat} (h0 : ph 0 = 0) (h0' : ps 0 = 0) (hp : ∀ s, s < 1024 → ps s < 1024 ∧ ph (ps s) = s) (hq : ∀ s, s < 1024 → ph s < 1024 ∧ ps (ph s) = s)
    (hm : ∀ e f s s', s < 1024 → mv e f s s' → s' < 1024) (hw : ∀ s s', s < 1024 → wt s s' → s' < 1024)
    (A : rc_Fin mv wt T U) (B : rc_Fin (rc_mY mv ph) (rc_wY wt ph) T' U') : (∀ s, s < 1024 → T' s = T (ph s)) ∧ (∀ e, U' e = U e) := by
  have toY : ∀ s t, s < 1024 → rc_R mv wt (ph s) t → rc_R (rc_mY mv ph) (rc_wY wt ph) s t := by
    intro s t hs r
    have := (rc_toY mv wt ph ps h0' hp hm hw r).2
    rw [(hq s hs).2] at this
    exact this
  have vX : ∀ e t, rc_V (rc_mY mv ph) (rc_wY wt ph) e t → rc_V mv wt e t := by
    intro e t ⟨f, s, s', r, m⟩
    refine ⟨f, ph s, ph s', rc_toX mv wt ph h0 r, ?_⟩
    rcases m with m | m
    · exact Or.inl m.2
    · exact Or.inr m.2
  have vY : ∀ e t, rc_V mv wt e t → rc_V (rc_mY mv ph) (rc_wY wt ph) e t := by
    intro e t ⟨f, s, s', r, m⟩
    obtain ⟨a, b⟩ := rc_toY mv wt ph ps h0' hp hm hw r
    have l : s' < 1024 := by
      rcases m with m | m
      · exact hm _ _ _ _ a m
      · exact hm _ _ _ _ a m
    refine ⟨f, ps s, ps s', b, ?_⟩
    unfold rc_mY
    rw [(hp s a).2, (hp s' l).2]
    rcases m with m | m
    · exact Or.inl ⟨(hp s' l).1, m⟩
    · exact Or.inr ⟨(hp s' l).1, m⟩
  refine ⟨fun s hs => ?_, fun e => ?_⟩
  · obtain ⟨a1, a2⟩ := A.1 (ph s) (hq s hs).1
    obtain ⟨b1, b2⟩ := B.1 s hs
    refine rc_uni (Q := fun t => rc_R mv wt (ph s) t) ?_ (fun t r => b2 t (toY s t hs r)) a1 a2
    rcases b1 with z | ⟨z, r⟩
    · exact Or.inl z
    · exact Or.inr ⟨z, rc_toX mv wt ph h0 r⟩
  · obtain ⟨a1, a2⟩ := A.2 e
    obtain ⟨b1, b2⟩ := B.2 e
    refine rc_uni (Q := fun t => rc_V mv wt e t) ?_ (fun t r => b2 t (vY e t r)) a1 a2
    rcases b1 with z | ⟨z, r⟩
    · exact Or.inl z
    · exact Or.inr ⟨z, vX e _ r⟩
end
