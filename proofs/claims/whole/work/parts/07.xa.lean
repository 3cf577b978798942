/-! the arrays of the search against F, T, U: k codes a time -/
def rc_A (k : Nat → Int32) (n : Nat) (F T U : Nat → Nat) (fc : Int32) (fd ft us : Nat → Int32) : Prop :=
  fc = nI n ∧ (∀ i, i < n → fd i = nI (F i)) ∧ (∀ s, s < 1024 → ft s = k (T s)) ∧ (∀ e, e < 12 → us e = k (U e))
def rc_kx (v : Nat) : Int32 := if v = 21 then -4 else nI v
def rc_ky (v : Nat) : Int32 := nI v
theorem rc_kx_v {v : Nat} (h : v ≠ 21) : rc_kx v = nI v := if_neg h
theorem rc_kx_t : ∀ v, v < 21 → ¬ rc_kx v = -4 := by decide +kernel
theorem rc_A_note {k : Nat → Int32} {n : Nat} {F T U : Nat → Nat} {fc : Int32} {fd ft us : Nat → Int32} {s h : Nat} (A : rc_A k n F T U fc fd ft us) (hk : k h = nI h) : rc_A k (n + 1) (rc_up F n s) (rc_up T s h) U (nI (n + 1)) (upd fd n (nI s)) (upd ft s (nI h)) us := by
  obtain ⟨a1, a2, a3, a4⟩ := A
  refine ⟨rfl, fun i hi => ?_, fun q hq => ?_, a4⟩
  · by_cases z : i = n
    · rw [z, pk_us, rc_us]
    · rw [pk_un z, rc_un z]; exact a2 i (by omega)
  · by_cases z : q = s
    · rw [z, pk_us, rc_us, hk]
    · rw [pk_un z, rc_un z]; exact a3 q hq
theorem rc_A_use {k : Nat → Int32} {n : Nat} {F T U : Nat → Nat} {fc : Int32} {fd ft us : Nat → Int32} {e h : Nat} (A : rc_A k n F T U fc fd ft us) (hk : k h = nI h) : rc_A k n F T (rc_up U e h) fc fd ft (upd us e (nI h)) := by
  obtain ⟨a1, a2, a3, a4⟩ := A
  refine ⟨a1, a2, a3, fun q hq => ?_⟩
  by_cases z : q = e
  · rw [z, pk_us, rc_us, hk]
  · rw [pk_un z, rc_un z]; exact a4 q hq
/-- from here on, whatever has been found: the post -/
def rc_go {S : Type} (mv : Nat → Nat → Nat → Nat → Prop) (wt : Nat → Nat → Prop) (k : Nat → Int32) (mk : Int32 → (Nat → Int32) → (Nat → Int32) → (Nat → Int32) → S) (post : S → Prop) (lo h n : Nat) (F T U : Nat → Nat) (D : (Nat → Nat) → (Nat → Nat) → Prop) : Prop :=
  ∀ (n' : Nat) (F' T' U' : Nat → Nat) (fc : Int32) (fd ft us : Nat → Int32), rc_A k n' F' T' U' fc fd ft us → rc_Ok mv wt lo h n' F' T' U' → rc_Le n F T U n' F' T' U' → D T' U' → post (mk fc fd ft us)
def rc_dn (mv : Nat → Nat → Nat → Nat → Prop) (s h e f : Nat) (T U : Nat → Nat) : Prop := ∀ s', mv e f s s' → T s' ≤ h ∧ U e ≤ h ∧ U f ≤ h
theorem rc_dn_le {mv : Nat → Nat → Nat → Nat → Prop} {s h e f n n' : Nat} {F T U F' T' U' : Nat → Nat} (hh : h ≤ 20) (L : rc_Le n F T U n' F' T' U') (d : rc_dn mv s h e f T U) : rc_dn mv s h e f T' U' := by
  intro s' m
  obtain ⟨d1, d2, d3⟩ := d s' m
  rw [L.2.2.1 s' (by omega), L.2.2.2 e (by omega), L.2.2.2 f (by omega)]
  exact ⟨d1, d2, d3⟩
