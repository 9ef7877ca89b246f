/-! snow: who is told when -/
def enc (v : Int) : Int := if v = -1 then 268435456 else v
/-- the frame: memory changed at these places alone -/
def fr (S : List Int) (m m' : jM) : Prop := ∀ p, p ∉ S → m' p = m p
theorem fr_rf {S : List Int} {m : jM} : fr S m m := fun _ _ => rfl
theorem fr_tr {S : List Int} {m m1 m2 : jM} (h1 : fr S m m1) (h2 : fr S m1 m2) : fr S m m2 := fun p hp => (h2 p hp).trans (h1 p hp)
theorem fr_mono {S S' : List Int} {m m' : jM} (h : fr S m m') (hs : ∀ p, p ∈ S → p ∈ S') : fr S' m m' := fun p hp => h p (fun q => hp (hs p q))
theorem fr_up {S : List Int} {m m' : jM} {p i x : Int} (h : fr S m m') (hp : p ∈ S) : fr S m (jup m' p i x) := fun q hq => by
  rw [jup_ne (fun e => hq (by rw [e]; exact hp))]
  exact h q hq
theorem fr_fill {S : List Int} {m m' : jM} {p n x : Int} (h : fr S m m') (hp : p ∈ S) : fr S m (jfill m' p n x) := fun q hq => by
  rw [jfill_ne (fun e => hq (by rw [e]; exact hp))]
  exact h q hq
theorem jup_self {m : jM} {p i x : Int} (j : Int) : jup m p i x p j = if j = i then x else m p j := by simp [jup]
/-- of the first k of a row: the sum of T where A is a -/
def psum (A T : Int → Int) (a : Int) : Nat → Int
  | 0 => 0
  | k + 1 => psum A T a k + if A k = a then T k else 0
theorem psum_bd {A T : Int → Int} {a : Int} {L : Int} (hL : 0 ≤ L) : ∀ (k : Nat), (∀ i : Nat, i < k → 0 ≤ T i ∧ T i ≤ L) → 0 ≤ psum A T a k ∧ psum A T a k ≤ (k : Int) * L := by
  intro k
  induction k with
  | zero => intro h; simp [psum]
  | succ k ih =>
    intro h
    have h1 := ih (fun i hi => h i (by omega))
    have h2 := h k (by omega)
    rw [show ((k + 1 : Nat) : Int) * L = (k : Int) * L + L by rw [Int.natCast_add, Int.add_mul]; simp]
    simp only [psum]
    split <;> omega
theorem psum_cg {A T A' T' : Int → Int} {a : Int} : ∀ (k : Nat), (∀ i : Nat, i < k → A i = A' i ∧ T i = T' i) → psum A T a k = psum A' T' a k := by
  intro k
  induction k with
  | zero => intro h; rfl
  | succ k ih =>
    intro h
    simp only [psum]
    rw [ih (fun i hi => h i (by omega)), (h k (by omega)).1, (h k (by omega)).2]
/-- how long after its caller was told the i-th call ends -/
def snD (d : jM) (i : Int) : Int := psum (d 186) (d 188) (d 186 i) (i.toNat + 1)
def snE (d : jM) : jG := fun x y l => ∃ i, 0 ≤ i ∧ i < d 139 60 ∧ d 186 i = x ∧ d 187 i = y ∧ l = snD d i
/-- the calls as they must be -/
def snK (d : jM) : Prop := 0 ≤ d 139 60 ∧ d 139 60 ≤ 30 ∧ ∀ i, 0 ≤ i → i < d 139 60 → 0 ≤ d 186 i ∧ d 186 i < 12 ∧ 0 ≤ d 187 i ∧ d 187 i < 12 ∧ 1 ≤ d 188 i ∧ d 188 i ≤ 99
/-- the class's rows hold them -/
def snC (d m : jM) : Prop := m 133 0 = d 139 60 ∧ (∀ i, 0 ≤ i → i < d 139 60 → m 135 i = d 186 i ∧ m 136 i = d 187 i ∧ m 137 i = snD d i) ∧ ∀ a, 0 ≤ a → a < 12 → m 138 a = psum (d 186) (d 188) a (d 139 60).toNat
theorem snD_bd {d : jM} (h : snK d) {i : Int} (h0 : 0 ≤ i) (hi : i < d 139 60) : 1 ≤ snD d i ∧ snD d i ≤ 2970 := by
  have hp : ∀ j : Nat, (j : Int) < d 139 60 → 0 ≤ d 188 j ∧ d 188 j ≤ 99 := fun j hj => by have := h.2.2 j (by omega) hj; omega
  have h1 := psum_bd (A := d 186) (T := d 188) (a := d 186 i) (L := 99) (by decide) i.toNat (fun j hj => hp j (by omega))
  have h2 := h.2.2 i h0 hi
  have h3 := h.2.1
  unfold snD
  simp only [psum]
  rw [Int.toNat_of_nonneg h0, if_pos rfl]
  have : (i.toNat : Int) * 99 ≤ 29 * 99 := Int.mul_le_mul_of_nonneg_right (by omega) (by decide)
  omega
theorem snE_ok {d : jM} (h : snK d) : gOK (12 : Nat) (snE d) := by
  rintro x y l ⟨i, h0, hi, rfl, rfl, rfl⟩
  have h1 := h.2.2 i h0 hi
  have h2 := snD_bd h h0 hi
  omega
theorem sn_bd {d : jM} (h : snK d) (a b : Int) : -1 ≤ dst (12 : Nat) (snE d) a b ∧ dst (12 : Nat) (snE d) a b ≤ 32670 := by
  have h1 := dst_ge (snE_ok h) a b
  have h2 := dst_bd (snE_ok h) (L := 2970) (by rintro x y l ⟨i, h0, hi, rfl, rfl, rfl⟩; exact (snD_bd h h0 hi).2) a b (by decide) (by decide)
  omega
/-- what is known at a round's beginning of the times t -/
def snI (d : jM) (a : Int) (r : Nat) (t : Int → Int) : Prop := bfS (12 : Nat) (snE d) a 268435456 t ∧ bfL (12 : Nat) (snE d) a r t ∧ t a ≤ 0 ∧ ∀ b, 0 ≤ b → b < 12 → 0 ≤ t b
/-- within a round: u at its beginning -/
def snJ (d : jM) (a : Int) (u : Int → Int) (i fl : Int) (t : Int → Int) : Prop := bfS (12 : Nat) (snE d) a 268435456 t ∧ (∀ b, 0 ≤ b → b < 12 → 0 ≤ t b ∧ t b ≤ u b) ∧ (∀ j, 0 ≤ j → j < i → t (d 187 j) ≤ u (d 186 j) + snD d j) ∧ (fl = 0 → ∀ b, 0 ≤ b → b < 12 → t b = u b) ∧ 0 ≤ i ∧ i ≤ d 139 60
theorem c_spread {d m : jM} {Q : Int → jM → Prop} {a : Int} (hk : snK d) (hc : snC d m) (h0 : 0 ≤ a) (h1 : a < 12) (hQ : ∀ m', fr [134] m m' → (∀ b, 0 ≤ b → b < 12 → m' 134 b = enc (dst (12 : Nat) (snE d) a b)) → Q 0 m') : ML iX5_spread [(2, 133), (0, a)] m Q := by
  have g := snE_ok hk
  have hend : ∀ m', fr [134] m m' → (∀ r, bfL (12 : Nat) (snE d) a r (m' 134)) → bfS (12 : Nat) (snE d) a 268435456 (m' 134) → Q 0 m' := by
    intro m' hf hL hS
    refine hQ m' hf (fun b b0 b1 => ?_)
    have := sn_bd hk a b
    exact bf_end g hS hL b0 b1 (by omega) (by decide)
  refine sX5_spread (c_fill at_134 (by decide) (fun m i x h => ny_134 h) ⟨h0, h1, ?_⟩)
  refine lup2 (n := 12) (I := fun r m1 fl => 0 ≤ r ∧ r ≤ 12 ∧ fr [134] m m1 ∧ snI d a r.toNat (m1 134) ∧ (fl = 0 → ∀ r, bfL (12 : Nat) (snE d) a r (m1 134))) (G := fun r m1 fl => GL iX5_spread m1 20 [(2, 133), (9, 0), (0, fl), (0, r), (9, 0), (9, 0)] [] Q) ?_ ?_ 0 _ 1 ⟨by decide, by decide, fr_up (fr_fill fr_rf (by decide)) (by decide), ?_, fun h => absurd h (by decide)⟩
  · rintro r m1 fl hr ⟨r0, r1, hf, hI, hfl⟩ K
    refine sX5_spread_20 ⟨fun c => absurd c (by omega), fun _ => ⟨fun e => hend m1 hf (hfl e) hI.1, fun _ => ?_⟩⟩
    refine lup2 (n := d 139 60) (I := fun i m2 f2 => fr [134] m m2 ∧ snJ d a (m1 134) i f2 (m2 134) ∧ (f2 = 0 ∨ f2 = 1)) (G := fun i m2 f2 => GL iX5_spread m2 35 [(2, 133), (9, 0), (0, f2), (0, r), (0, i), (9, 0)] [] Q) ?_ ?_ 0 m1 0 ⟨hf, ⟨hI.1, fun b b0 b1 => ⟨hI.2.2.2 b b0 b1, Int.le_refl _⟩, fun j j0 j1 => by omega, fun _ b _ _ => rfl, by decide, hk.1⟩, Or.inl rfl⟩
    · rintro i m2 f2 hi ⟨hf2, ⟨J1, J2, J3, J4, J5, J6⟩, hf3⟩ K2
      have e1 := hf2 133 (by decide)
      have e2 := hf2 135 (by decide)
      have e3 := hf2 136 (by decide)
      have e4 := hf2 137 (by decide)
      have hi30 := hk.2.1
      have q := hc.2.1 i J5 hi
      have qk := hk.2.2 i J5 hi
      have qd := snD_bd hk J5 hi
      have jA := J2 (d 186 i) qk.1 qk.2.1
      have jB := J2 (d 187 i) qk.2.2.1 qk.2.2.2.1
      have sA := J1 (d 186 i) qk.1 qk.2.1
      have sB := J1 (d 187 i) qk.2.2.1 qk.2.2.2.1
      have uA := hI.1 (d 186 i) qk.1 qk.2.1
      have sA1 := sA.1
      have sB1 := sB.1
      refine sX5_spread_35 ?_
      rw [e1, e2, e3, e4, hc.1, q.1, q.2.1, q.2.2, jw_id (x := m2 134 (d 186 i) + snD d i) (by omega) (by omega), jw_id (x := i + 1) (by omega) (by omega)]
      refine ⟨fun c => absurd c (by omega), fun _ => ⟨J5, by omega, qk.1, qk.2.1, J5, by omega, J5, by omega, qk.2.2.1, qk.2.2.2.1, fun c => ?_, fun c => ⟨J5, by omega, qk.2.2.1, qk.2.2.2.1, ?_⟩⟩⟩
      · refine K2 m2 f2 ⟨hf2, ⟨J1, J2, fun j j0 j1 => ?_, J4, by omega, by omega⟩, hf3⟩
        by_cases hj : j = i
        · subst hj
          omega
        · exact J3 j j0 (by omega)
      · refine K2 (jup m2 134 (d 187 i) (m2 134 (d 186 i) + snD d i)) 1 ⟨fr_up hf2 (by decide), ⟨?_, ?_, ?_, fun h => absurd h (by decide), by omega, by omega⟩, Or.inr rfl⟩
        · intro b b0 b1
          rw [jup_self]
          by_cases hb : b = d 187 i
          · rw [if_pos hb]
            refine ⟨by omega, fun _ => ?_⟩
            obtain ⟨k, hw⟩ := sA.2 (by omega)
            exact ⟨k + 1, _, _, snD d i, hw, ⟨i, J5, hi, rfl, hb.symm, rfl⟩, rfl⟩
          · rw [if_neg hb]
            exact J1 b b0 b1
        · intro b b0 b1
          rw [jup_self]
          by_cases hb : b = d 187 i
          · rw [if_pos hb, hb]
            omega
          · rw [if_neg hb]
            exact J2 b b0 b1
        · intro j j0 j1
          rw [jup_self]
          by_cases hj : j = i
          · rw [hj, if_pos rfl]
            omega
          · have := J3 j j0 (by omega)
            split
            · rename_i hb
              rw [hb] at this
              omega
            · exact this
    · rintro i m2 f2 hi ⟨hf2, ⟨J1, J2, J3, J4, J5, J6⟩, hf3⟩
      obtain rfl : i = d 139 60 := by omega
      have e1 := hf2 133 (by decide)
      refine sX5_spread_35 ?_
      rw [e1, hc.1, jw_id (x := r + 1) (by omega) (by omega)]
      refine ⟨fun _ => K m2 f2 ⟨by omega, by omega, hf2, ⟨J1, ?_, ?_, fun b b0 b1 => (J2 b b0 b1).1⟩, fun e => ?_⟩, fun c => absurd (Int.le_refl _) c⟩
      · rw [show (r + 1).toNat = r.toNat + 1 by omega]
        refine bf_next ?_ hI.2.1 ?_
        · have := J2 a h0 h1
          have := hI.2.2.1
          omega
        · rintro x y l ⟨j, j0, j1, rfl, rfl, rfl⟩
          exact J3 j j0 j1
      · have := J2 a h0 h1
        have := hI.2.2.1
        omega
      · refine bf_fix g ?_ ?_
        · have := J2 a h0 h1
          have := hI.2.2.1
          omega
        · rintro x y l ⟨j, j0, j1, rfl, rfl, rfl⟩
          have := J3 j j0 j1
          have qk := hk.2.2 j j0 j1
          rw [J4 e _ qk.1 qk.2.1]
          exact this
  · rintro r m1 fl hr ⟨r0, r1, hf, hI, hfl⟩
    obtain rfl : r = 12 := by omega
    exact sX5_spread_20 ⟨fun _ => hend m1 hf (bf_all g hI.2.1) hI.1, fun c => absurd hr c⟩
  · refine ⟨fun b b0 b1 => ?_, ?_, ?_, fun b b0 b1 => ?_⟩
    · rw [jup_self, jfill_at b0 (show b < ((12 : Nat) : Int) by omega)]
      split
      · rename_i e
        exact ⟨by decide, fun _ => ⟨0, e.symm, h0, h1, rfl⟩⟩
      · exact ⟨Int.le_refl _, fun h => absurd h (by decide)⟩
    · intro k b s hk0 hw
      obtain rfl : k = 0 := Nat.le_zero.mp hk0
      obtain ⟨rfl, -, -, rfl⟩ := hw
      rw [jup_self, if_pos rfl]
      exact Int.le_refl _
    · rw [jup_self, if_pos rfl]
      exact Int.le_refl _
    · rw [jup_self, jfill_at b0 (show b < ((12 : Nat) : Int) by omega)]
      split <;> decide
