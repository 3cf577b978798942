/-! The table of edges and places as naturals, and what moves and waits there are by it. A state's code (the component's): a + 4 * b + 16 * x + 128 * y -/
section
variable (c : Nat) (pr so ta rs sg le gr bd ur : Nat → Nat)
def tp_G : Prop := c ≤ 12 ∧ (∀ j, pr j < 2) ∧ (∀ j, so j < 4) ∧ (∀ j, ta j < 4) ∧ (∀ j, rs j < 4) ∧ (∀ j, sg j < 5) ∧ (∀ j, le j < 7) ∧ (∀ j, gr j < 8) ∧ (∀ j, bd j < 8) ∧ (∀ j, ur j < 2)
def tp_mk (a b x y : Nat) : Nat := a + 4 * b + 16 * x + 128 * y
theorem tp_mk_lt {a b x y : Nat} (ha : a < 4) (hb : b < 4) (hx : x < 8) (hy : y < 8) : tp_mk a b x y < 1024 := by
  unfold tp_mk; omega
theorem tp_mk_p {a b x y : Nat} (ha : a < 4) (hb : b < 4) (hx : x < 8) (hy : y < 8) : tp_mk a b x y % 4 = a ∧ tp_mk a b x y / 4 % 4 = b ∧ tp_mk a b x y / 16 % 8 = x ∧ tp_mk a b x y / 128 % 8 = y := by
  unfold tp_mk; omega
theorem tp_mk_of {s : Nat} (h : s < 1024) : tp_mk (s % 4) (s / 4 % 4) (s / 16 % 8) (s / 128 % 8) = s := by
  unfold tp_mk; omega
/-- the place of process p -/
def tp_pl (s p : Nat) : Nat := if p = 0 then s % 4 else s / 4 % 4
def tp_ck (s k : Nat) : Nat := if k = 0 then s / 16 % 8 else s / 128 % 8
theorem tp_pl_lt (s p : Nat) : tp_pl s p < 4 := by
  unfold tp_pl; split <;> omega
theorem tp_ck_lt (s k : Nat) : tp_ck s k < 8 := by
  unfold tp_ck; split <;> omega
/-- edge e may be taken in s -/
def tp_op (e s : Nat) : Prop := tp_pl s (pr e) = so e ∧ (le (2 * e) ≤ tp_ck s 0 ∧ tp_ck s 0 ≤ gr (2 * e)) ∧ (le (2 * e + 1) ≤ tp_ck s 1 ∧ tp_ck s 1 ≤ gr (2 * e + 1))
/-- the state behind edge e, whatever the bounds say -/
def tp_fo (e s : Nat) : Nat := tp_mk (if pr e = 0 then ta e else s % 4) (if pr e = 0 then s / 4 % 4 else ta e) (if rs e % 2 = 1 then 0 else s / 16 % 8) (if rs e / 2 = 1 then 0 else s / 128 % 8)
/-- no clock is above a bound -/
def tp_kb (s : Nat) : Prop := (tp_ck s 0 ≤ bd (2 * tp_pl s 0) ∧ tp_ck s 1 ≤ bd (2 * tp_pl s 0 + 1)) ∧ (tp_ck s 0 ≤ bd (2 * (4 + tp_pl s 1)) ∧ tp_ck s 1 ≤ bd (2 * (4 + tp_pl s 1) + 1))
def tp_im (e f : Nat) : Prop := (e = f ∧ sg e = 0) ∨ (e ≠ f ∧ pr e = 0 ∧ pr f = 1 ∧ sg e ≠ 0 ∧ sg f ≠ 0 ∧ (sg e = sg f + 2 ∨ sg f = sg e + 2))
def tp_mv (e f s s' : Nat) : Prop := e < c ∧ f < c ∧ tp_im pr sg e f ∧ tp_op pr so le gr e s ∧ tp_op pr so le gr f s ∧ s' = tp_fo pr ta rs f (tp_fo pr ta rs e s) ∧ tp_kb bd s'
def tp_in (x : Nat) : Nat := if x < 7 then x + 1 else 7
def tp_wo (s : Nat) : Nat := tp_mk (s % 4) (s / 4 % 4) (tp_in (s / 16 % 8)) (tp_in (s / 128 % 8))
def tp_wt (s s' : Nat) : Prop := ur (tp_pl s 0) = 0 ∧ ur (4 + tp_pl s 1) = 0 ∧ s' = tp_wo s ∧ tp_kb bd s'
theorem tp_in_lt (x : Nat) : tp_in x < 8 := by
  unfold tp_in; split <;> omega
theorem tp_wo_lt (s : Nat) : tp_wo s < 1024 := tp_mk_lt (by omega) (by omega) (tp_in_lt _) (tp_in_lt _)
theorem tp_fo_lt {e s : Nat} (h : ta e < 4) : tp_fo pr ta rs e s < 1024 := by
  unfold tp_fo
  apply tp_mk_lt
  · split <;> omega
  · split <;> omega
  · split <;> omega
  · split <;> omega
theorem tp_fo_p {e s : Nat} (h : ta e < 4) : tp_fo pr ta rs e s % 4 = (if pr e = 0 then ta e else s % 4) ∧ tp_fo pr ta rs e s / 4 % 4 = (if pr e = 0 then s / 4 % 4 else ta e) ∧ tp_fo pr ta rs e s / 16 % 8 = (if rs e % 2 = 1 then 0 else s / 16 % 8) ∧ tp_fo pr ta rs e s / 128 % 8 = (if rs e / 2 = 1 then 0 else s / 128 % 8) := by
  unfold tp_fo
  apply tp_mk_p
  · split <;> omega
  · split <;> omega
  · split <;> omega
  · split <;> omega
/-- a silent move, twice, is the move once -/
theorem tp_fo2 {e s : Nat} (h : ta e < 4) : tp_fo pr ta rs e (tp_fo pr ta rs e s) = tp_fo pr ta rs e s := by
  obtain ⟨h1, h2, h3, h4⟩ := tp_fo_p pr ta rs (s := s) h
  show tp_mk _ _ _ _ = tp_mk _ _ _ _
  rw [h1, h2, h3, h4]
  congr 1 <;> split <;> rfl
theorem tp_mv_lt {e f s s' : Nat} (h : ∀ j, ta j < 4) (m : tp_mv c pr so ta rs sg le gr bd e f s s') : s' < 1024 := by
  obtain ⟨_, _, _, _, _, m, _⟩ := m
  rw [m]; exact tp_fo_lt pr ta rs (h f)
theorem tp_wt_lt {s s' : Nat} (m : tp_wt bd ur s s') : s' < 1024 := by
  obtain ⟨_, _, m, _⟩ := m
  rw [m]; exact tp_wo_lt s
end
/-! the reference's code: 64 * (a + 4 * b) + 8 * x + y -/
def tp_ph (q : Nat) : Nat := tp_mk (q / 64 % 4) (q / 256 % 4) (q / 8 % 8) (q % 8)
def tp_ps (s : Nat) : Nat := 64 * (s % 16) + 8 * (s / 16 % 8) + s / 128 % 8
theorem tp_ph_0 : tp_ph 0 = 0 := rfl
theorem tp_ps_0 : tp_ps 0 = 0 := rfl
theorem tp_ph_ps_t : ∀ s, s < 1024 → tp_ps s < 1024 ∧ tp_ph (tp_ps s) = s := by decide +kernel
theorem tp_ph_ps {s : Nat} (h : s < 1024) : tp_ps s < 1024 ∧ tp_ph (tp_ps s) = s := tp_ph_ps_t s h
theorem tp_ps_ph_t : ∀ q, q < 1024 → tp_ph q < 1024 ∧ tp_ps (tp_ph q) = q := by decide +kernel
theorem tp_ps_ph {q : Nat} (h : q < 1024) : tp_ph q < 1024 ∧ tp_ps (tp_ph q) = q := tp_ps_ph_t q h
theorem tp_ph_p (q : Nat) : tp_ph q % 4 = q / 64 % 4 ∧ tp_ph q / 4 % 4 = q / 256 % 4 ∧ tp_ph q / 16 % 8 = q / 8 % 8 ∧ tp_ph q / 128 % 8 = q % 8 :=
  tp_mk_p (by omega) (by omega) (by omega) (by omega)
section
variable (pr ta rs : Nat → Nat)
/-- the reference's move of a location, its clearing of clocks -/
def ty_mo (e q : Nat) : Nat := 64 * (if pr e = 0 then q / 64 / 4 * 4 + ta e else q / 64 % 4 + 4 * ta e) + q % 64
def ty_cl (q set : Nat) : Nat := q / 64 * 64 + 8 * (if set % 2 = 1 then 0 else q / 8 % 8) + (if set / 2 = 1 then 0 else q % 8)
theorem ty_mo_p {e q : Nat} (h : ta e < 4) (hq : q < 1024) : ty_mo pr ta e q < 1024 ∧ ty_mo pr ta e q / 64 % 4 = (if pr e = 0 then ta e else q / 64 % 4) ∧ ty_mo pr ta e q / 256 % 4 = (if pr e = 0 then q / 256 % 4 else ta e) ∧ ty_mo pr ta e q / 8 % 8 = q / 8 % 8 ∧ ty_mo pr ta e q % 8 = q % 8 := by
  unfold ty_mo
  by_cases z : pr e = 0
  · rw [if_pos z, if_pos z, if_pos z]; omega
  · rw [if_neg z, if_neg z, if_neg z]; omega
theorem ty_cl_p {q set : Nat} (hq : q < 1024) : ty_cl q set < 1024 ∧ ty_cl q set / 64 % 4 = q / 64 % 4 ∧ ty_cl q set / 256 % 4 = q / 256 % 4 ∧ ty_cl q set / 8 % 8 = (if set % 2 = 1 then 0 else q / 8 % 8) ∧ ty_cl q set % 8 = (if set / 2 = 1 then 0 else q % 8) := by
  have key : ∀ a b : Nat, a < 8 → b < 8 → q / 64 * 64 + 8 * a + b < 1024 ∧ (q / 64 * 64 + 8 * a + b) / 64 % 4 = q / 64 % 4 ∧ (q / 64 * 64 + 8 * a + b) / 256 % 4 = q / 256 % 4 ∧ (q / 64 * 64 + 8 * a + b) / 8 % 8 = a ∧ (q / 64 * 64 + 8 * a + b) % 8 = b := by
    intro a b ha hb; omega
  exact key _ _ (by split <;> omega) (by split <;> omega)
theorem ty_silent {e q : Nat} (h : ta e < 4) (hq : q < 1024) : tp_ph (ty_cl (ty_mo pr ta e q) (rs e)) = tp_fo pr ta rs e (tp_ph q) := by
  obtain ⟨m0, m1, m2, m3, m4⟩ := ty_mo_p pr ta h hq
  obtain ⟨_, c1, c2, c3, c4⟩ := ty_cl_p (set := rs e) m0
  obtain ⟨p1, p2, p3, p4⟩ := tp_ph_p q
  show tp_mk _ _ _ _ = tp_mk _ _ _ _
  rw [c1, c2, c3, c4, m1, m2, m3, m4, p1, p2, p3, p4]
theorem ty_or : ∀ a, a < 4 → ∀ b, b < 4 → ((a ||| b) % 2 = 1 ↔ (a % 2 = 1 ∨ b % 2 = 1)) ∧ ((a ||| b) / 2 = 1 ↔ (a / 2 = 1 ∨ b / 2 = 1)) ∧ a ||| b < 4 := by decide
theorem ty_joint {e f q : Nat} (h : ∀ j, ta j < 4) (hr : ∀ j, rs j < 4) (hq : q < 1024) : tp_ph (ty_cl (ty_mo pr ta f (ty_mo pr ta e q)) (rs e ||| rs f)) = tp_fo pr ta rs f (tp_fo pr ta rs e (tp_ph q)) := by
  obtain ⟨m0, m1, m2, m3, m4⟩ := ty_mo_p pr ta (h e) hq
  obtain ⟨n0, n1, n2, n3, n4⟩ := ty_mo_p pr ta (h f) m0
  obtain ⟨_, c1, c2, c3, c4⟩ := ty_cl_p (set := rs e ||| rs f) n0
  obtain ⟨p1, p2, p3, p4⟩ := tp_ph_p q
  obtain ⟨f1, f2, f3, f4⟩ := tp_fo_p pr ta rs (s := tp_ph q) (h e)
  obtain ⟨o1, o2, _⟩ := ty_or (rs e) (hr e) (rs f) (hr f)
  show tp_mk _ _ _ _ = tp_mk _ _ _ _
  rw [c1, c2, c3, c4, n1, n2, n3, n4, m1, m2, m3, m4, f1, f2, f3, f4, p1, p2, p3, p4]
  have e3 : (if (rs e ||| rs f) % 2 = 1 then 0 else q / 8 % 8) = (if rs f % 2 = 1 then 0 else if rs e % 2 = 1 then 0 else q / 8 % 8) := by
    by_cases a : rs e % 2 = 1 <;> by_cases b : rs f % 2 = 1 <;> simp [o1, a, b]
  have e4 : (if (rs e ||| rs f) / 2 = 1 then 0 else q % 8) = (if rs f / 2 = 1 then 0 else if rs e / 2 = 1 then 0 else q % 8) := by
    by_cases a : rs e / 2 = 1 <;> by_cases b : rs f / 2 = 1 <;> simp [o2, a, b]
  rw [e3, e4]
end
