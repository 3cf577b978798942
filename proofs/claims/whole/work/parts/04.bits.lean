/-! values: the component's bits, the reference's quotients, as naturals -/
def tp_I (f : Nat → Nat) : Nat → Int32 := fun j => nI (f j)
theorem tp_I_up (f : Nat → Nat) (k v : Nat) : upd (tp_I f) k (nI v) = tp_I (rc_up f k v) := by
  funext j
  show (if j = k then nI v else nI (f j)) = nI (if j = k then v else f j)
  split <;> rfl
theorem bx_or (a b : Nat) : nI a ||| nI b = nI (a ||| b) := by
  apply Int32.toBitVec_inj.1
  show BitVec.ofNat 32 a ||| BitVec.ofNat 32 b = BitVec.ofNat 32 (a ||| b)
  apply BitVec.eq_of_getLsbD_eq
  intro i hi
  simp [hi]
theorem bx_2 (e k : Nat) : 2 * nI e + nI k = nI (2 * e + k) := by
  rw [show (2 : Int32) = nI 2 from rfl, pk_mul, nI_add]
theorem bx_4 (e k : Nat) : 4 * nI e + nI k = nI (4 * e + k) := by
  rw [show (4 : Int32) = nI 4 from rfl, pk_mul, nI_add]
theorem bx_pl {s p : Nat} (hs : s < 1024) (hp : p < 2) : (nI s >>> ((2 * nI p) &&& 31)) &&& 3 = nI (tp_pl s p) := by
  have hs' : s < 2 ^ 31 := by omega
  match p, hp with
  | 0, _ =>
    rw [pk_shrN hs' ((2 * nI 0) &&& 31) 0 (by decide), pk_andN (by omega) 2 (by decide)]
    unfold tp_pl
    rw [if_pos rfl]
    exact congrArg nI (by omega)
  | 1, _ =>
    rw [pk_shrN hs' ((2 * nI 1) &&& 31) 2 (by decide), pk_andN (by omega) 2 (by decide)]
    unfold tp_pl
    rw [if_neg (by decide)]
theorem bx_ck {s k : Nat} (hs : s < 1024) (hk : k < 2) : (nI s >>> ((4 + (3 * nI k)) &&& 31)) &&& 7 = nI (tp_ck s k) := by
  have hs' : s < 2 ^ 31 := by omega
  match k, hk with
  | 0, _ =>
    rw [pk_shrN hs' ((4 + (3 * nI 0)) &&& 31) 4 (by decide), pk_andN (by omega) 3 (by decide)]
    unfold tp_ck
    rw [if_pos rfl]
  | 1, _ =>
    rw [pk_shrN hs' ((4 + (3 * nI 1)) &&& 31) 7 (by decide), pk_andN (by omega) 3 (by decide)]
    unfold tp_ck
    rw [if_neg (by decide)]
def tp_wc (s k v : Nat) : Nat := if k = 0 then tp_mk (s % 4) (s / 4 % 4) v (s / 128 % 8) else tp_mk (s % 4) (s / 4 % 4) (s / 16 % 8) v
def tp_lo (s p t : Nat) : Nat := if p = 0 then tp_mk t (s / 4 % 4) (s / 16 % 8) (s / 128 % 8) else tp_mk (s % 4) t (s / 16 % 8) (s / 128 % 8)
theorem bx_t1 : ∀ s, s < 1024 → ∀ v, v < 8 → (s &&& 4294967183) ||| (v * 2 ^ 4) = tp_mk (s % 4) (s / 4 % 4) v (s / 128 % 8) := by decide +kernel
theorem bx_t2 : ∀ s, s < 1024 → ∀ v, v < 8 → (s &&& 4294966399) ||| (v * 2 ^ 7) = tp_mk (s % 4) (s / 4 % 4) (s / 16 % 8) v := by decide +kernel
theorem bx_t3 : ∀ s, s < 1024 → ∀ v, v < 4 → (s &&& 4294967292) ||| (v * 2 ^ 0) = tp_mk v (s / 4 % 4) (s / 16 % 8) (s / 128 % 8) := by decide +kernel
theorem bx_t4 : ∀ s, s < 1024 → ∀ v, v < 4 → (s &&& 4294967283) ||| (v * 2 ^ 2) = tp_mk (s % 4) v (s / 16 % 8) (s / 128 % 8) := by decide +kernel
theorem bx_m1 : (((7 : Int32) <<< ((4 + (3 * nI 0)) &&& 31)) ^^^ (-1)) = nI 4294967183 := by decide +kernel
theorem bx_m2 : (((7 : Int32) <<< ((4 + (3 * nI 1)) &&& 31)) ^^^ (-1)) = nI 4294966399 := by decide +kernel
theorem bx_m3 : (((3 : Int32) <<< ((2 * nI 0) &&& 31)) ^^^ (-1)) = nI 4294967292 := by decide +kernel
theorem bx_m4 : (((3 : Int32) <<< ((2 * nI 1) &&& 31)) ^^^ (-1)) = nI 4294967283 := by decide +kernel
theorem bx_wc {s k v : Nat} (hs : s < 1024) (hk : k < 2) (hv : v < 8) : (nI s &&& (((7 : Int32) <<< ((4 + (3 * nI k)) &&& 31)) ^^^ (-1))) ||| (nI v <<< ((4 + (3 * nI k)) &&& 31)) = nI (tp_wc s k v) := by
  match k, hk with
  | 0, _ =>
    rw [bx_m1, pk_shlN ((4 + (3 * nI 0)) &&& 31) 4 (by decide) (by omega), nx_and, bx_or, bx_t1 s hs v hv]
    unfold tp_wc
    rw [if_pos rfl]
  | 1, _ =>
    rw [bx_m2, pk_shlN ((4 + (3 * nI 1)) &&& 31) 7 (by decide) (by omega), nx_and, bx_or, bx_t2 s hs v hv]
    unfold tp_wc
    rw [if_neg (by decide)]
theorem bx_lo {s p t : Nat} (hs : s < 1024) (hp : p < 2) (ht : t < 4) : (nI s &&& (((3 : Int32) <<< ((2 * nI p) &&& 31)) ^^^ (-1))) ||| (nI t <<< ((2 * nI p) &&& 31)) = nI (tp_lo s p t) := by
  match p, hp with
  | 0, _ =>
    rw [bx_m3, pk_shlN ((2 * nI 0) &&& 31) 0 (by decide) (by omega), nx_and, bx_or, bx_t3 s hs t ht]
    unfold tp_lo
    rw [if_pos rfl]
  | 1, _ =>
    rw [bx_m4, pk_shlN ((2 * nI 1) &&& 31) 2 (by decide) (by omega), nx_and, bx_or, bx_t4 s hs t ht]
    unfold tp_lo
    rw [if_neg (by decide)]
theorem bx_rs : ∀ r, r < 4 → (nI r >>> (nI 0 &&& 31)) &&& 1 = nI (r % 2) ∧ (nI r >>> (nI 1 &&& 31)) &&& 1 = nI (r / 2) := by decide +kernel
theorem bx_sg : ∀ a, a < 5 → ∀ b, b < 5 → ((nI a - nI b = 2 ↔ a = b + 2) ∧ (nI a - nI b = -2 ↔ b = a + 2)) := by decide +kernel
theorem tp_wc_lt {s k v : Nat} (hv : v < 8) : tp_wc s k v < 1024 := by
  unfold tp_wc; split
  · exact tp_mk_lt (by omega) (by omega) hv (by omega)
  · exact tp_mk_lt (by omega) (by omega) (by omega) hv
theorem tp_lo_lt {s p t : Nat} (ht : t < 4) : tp_lo s p t < 1024 := by
  unfold tp_lo; split
  · exact tp_mk_lt ht (by omega) (by omega) (by omega)
  · exact tp_mk_lt (by omega) ht (by omega) (by omega)
theorem tp_wc_p {s k v : Nat} (hv : v < 8) : tp_wc s k v % 4 = s % 4 ∧ tp_wc s k v / 4 % 4 = s / 4 % 4 ∧ tp_wc s k v / 16 % 8 = (if k = 0 then v else s / 16 % 8) ∧ tp_wc s k v / 128 % 8 = (if k = 0 then s / 128 % 8 else v) := by
  unfold tp_wc; split
  · exact tp_mk_p (by omega) (by omega) hv (by omega)
  · exact tp_mk_p (by omega) (by omega) (by omega) hv
theorem tp_lo_p {s p t : Nat} (ht : t < 4) : tp_lo s p t % 4 = (if p = 0 then t else s % 4) ∧ tp_lo s p t / 4 % 4 = (if p = 0 then s / 4 % 4 else t) ∧ tp_lo s p t / 16 % 8 = s / 16 % 8 ∧ tp_lo s p t / 128 % 8 = s / 128 % 8 := by
  unfold tp_lo; split
  · exact tp_mk_p ht (by omega) (by omega) (by omega)
  · exact tp_mk_p (by omega) ht (by omega) (by omega)
/-- the component's two steps of a move: the location, then the clocks -/
theorem tp_fo_x {pr ta rs : Nat → Nat} {e s : Nat} (h : ta e < 4) :
    tp_fo pr ta rs e s = (if rs e / 2 = 1 then tp_wc (if rs e % 2 = 1 then tp_wc (tp_lo s (pr e) (ta e)) 0 0 else tp_lo s (pr e) (ta e)) 1 0 else (if rs e % 2 = 1 then tp_wc (tp_lo s (pr e) (ta e)) 0 0 else tp_lo s (pr e) (ta e))) := by
  obtain ⟨l1, l2, l3, l4⟩ := tp_lo_p (s := s) (p := pr e) h
  have l0 := tp_lo_lt (s := s) (p := pr e) h
  have key : ∀ q, q < 1024 → q = tp_mk (q % 4) (q / 4 % 4) (q / 16 % 8) (q / 128 % 8) := fun q hq => (tp_mk_of hq).symm
  unfold tp_fo
  by_cases a : rs e % 2 = 1
  · obtain ⟨w1, w2, w3, w4⟩ := tp_wc_p (s := tp_lo s (pr e) (ta e)) (k := 0) (v := 0) (by omega)
    rw [if_pos rfl] at w3 w4
    have w0 := tp_wc_lt (s := tp_lo s (pr e) (ta e)) (k := 0) (v := 0) (by omega)
    by_cases b : rs e / 2 = 1
    · rw [if_pos a, if_pos b, if_pos b, if_pos a]
      show _ = tp_mk _ _ _ _
      rw [w1, w2, w3, l1, l2]
    · rw [if_pos a, if_neg b, if_neg b, if_pos a, key _ w0, w1, w2, w3, w4, l1, l2, l4]
  · by_cases b : rs e / 2 = 1
    · rw [if_neg a, if_pos b, if_pos b, if_neg a]
      show _ = tp_mk _ _ _ _
      rw [l1, l2, l3]
    · rw [if_neg a, if_neg b, if_neg b, if_neg a, key _ l0, l1, l2, l3, l4]
/-- waiting, clock by clock -/
theorem tp_wo_x (s : Nat) : tp_wo s = tp_wc (tp_wc s 0 (tp_in (s / 16 % 8))) 1 (tp_in (s / 128 % 8)) := by
  obtain ⟨w1, w2, w3, w4⟩ := tp_wc_p (s := s) (k := 0) (v := tp_in (s / 16 % 8)) (tp_in_lt _)
  rw [if_pos rfl] at w3
  show _ = tp_mk _ _ _ _
  rw [w1, w2, w3]
  rfl
theorem bx_ite {P : Prop} {_ : Decidable P} {a b m : Nat} (ha : a < m) (hb : b < m) : (if P then a else b) < m := by
  split
  · exact ha
  · exact hb
