/-! lay: shut ways and the tables of least sums -/
theorem jdr144 : ∀ c : Fin 144, jdiv ((c : Nat) : Int) 12 = ((c : Nat) : Int) / 12 ∧ jrem ((c : Nat) : Int) 12 = ((c : Nat) : Int) % 12 := by decide +kernel
theorem jdr {c : Int} (h0 : 0 ≤ c) (h1 : c < 144) : jdiv c 12 = c / 12 ∧ jrem c 12 = c % 12 := by
  have := jdr144 ⟨c.toNat, by omega⟩
  simpa [Int.toNat_of_nonneg h0] using this
/-- a table, of one kind -/
def lT (m : jM) (what : Int) : Int → Int → Int := fun a b => m 191 (lx what a b)
def lS (V : jM) (what : Int) (T : Int → Int → Int) : Prop := ∀ a b, 0 ≤ a → a < 12 → 0 ≤ b → b < 12 → T a b = -1 ∨ (0 ≤ T a b ∧ ∃ k, walk (vN V) (vE V what) k a b (T a b))
theorem lT_put {m : jM} {what a b v : Int} (a0 : 0 ≤ a) (a1 : a < 12) (b0 : 0 ≤ b) (b1 : b < 12) (p q : Int) (p0 : 0 ≤ p) (p1 : p < 12) (q0 : 0 ≤ q) (q1 : q < 12) : lT (jup m 191 (lx what a b) v) what p q = if p = a ∧ q = b then v else lT m what p q := by
  unfold lT
  rw [jup_self]
  by_cases e : p = a ∧ q = b
  · rw [if_pos e, if_pos (by rw [e.1, e.2])]
  · rw [if_neg e, if_neg (by unfold lx; omega)]
/-- one better value in the table -/
theorem lT_join {m : jM} {what a b v : Int} (a0 : 0 ≤ a) (a1 : a < 12) (b0 : 0 ≤ b) (b1 : b < 12) (p q : Int) (p0 : 0 ≤ p) (p1 : p < 12) (q0 : 0 ≤ q) (q1 : q < 12) : lT (if m 191 (lx what a b) < 0 ∨ v < m 191 (lx what a b) then jup m 191 (lx what a b) v else m) what p q = if p = a ∧ q = b ∧ (lT m what a b < 0 ∨ v < lT m what a b) then v else lT m what p q := by
  by_cases c : m 191 (lx what a b) < 0 ∨ v < m 191 (lx what a b)
  · rw [if_pos c, lT_put a0 a1 b0 b1 p q p0 p1 q0 q1]
    by_cases e : p = a ∧ q = b
    · rw [if_pos e, if_pos ⟨e.1, e.2, c⟩]
    · rw [if_neg e, if_neg (fun z => e ⟨z.1, z.2.1⟩)]
  · rw [if_neg c, if_neg (fun z => c z.2.2)]
theorem lT_other {m : jM} {what what' a b v : Int} (hne : what' ≠ what) (a0 : 0 ≤ a) (a1 : a < 12) (b0 : 0 ≤ b) (b1 : b < 12) (p q : Int) (p0 : 0 ≤ p) (p1 : p < 12) (q0 : 0 ≤ q) (q1 : q < 12) : lT (if m 191 (lx what a b) < 0 ∨ v < m 191 (lx what a b) then jup m 191 (lx what a b) v else m) what' p q = lT m what' p q := by
  unfold lT
  split
  · rw [jup_self, if_neg (by unfold lx; omega)]
  · rfl
/-- what holds all the while in lay, behind the shut ways -/
def lI (V m0 : jM) (k what : Int) (m : jM) : Prop := frx [190, 191] [(139, 69)] m0 m ∧ m 139 69 = k ∧ vShR V m ∧ ∀ w, 0 ≤ w → w < what → ∀ a b, 0 ≤ a → a < 12 → 0 ≤ b → b < 12 → lT m w a b = vD V w a b
theorem lI_join {V m0 m : jM} {k what a b v : Int} (h : lI V m0 k what m) (a0 : 0 ≤ a) (a1 : a < 12) (b0 : 0 ≤ b) (b1 : b < 12) : lI V m0 k what (if m 191 (lx what a b) < 0 ∨ v < m 191 (lx what a b) then jup m 191 (lx what a b) v else m) := by
  obtain ⟨h1, h2, h3, h4⟩ := h
  refine ⟨?_, ?_, ?_, fun w w0 w1 p q p0 p1 q0 q1 => by rw [lT_other (by omega) a0 a1 b0 b1 p q p0 p1 q0 q1]; exact h4 w w0 w1 p q p0 p1 q0 q1⟩
  · split
    · exact frx_upA h1 (by decide)
    · exact h1
  · split
    · exact h2
    · exact h2
  · split
    · unfold vShR at h3 ⊢
      rw [jup_ne (by decide)]
      exact h3
    · exact h3
/-- one round of the table over a middle place K -/
theorem c_layK {V m0 m : jM} {Q : Int → jM → Prop} {k what K : Int} (ht : vKt V) (w0 : 0 ≤ what) (w1 : what < 3) (K0 : 0 ≤ K) (K1 : K < 12) (hI : lI V m0 k what m) (hT : fwI (vN V) K (vE V what) (lT m what)) (hB : ∀ a b, 0 ≤ a → a < 12 → 0 ≤ b → b < 12 → lT m what a b ≤ 9999 * 2 ^ K.toNat) (hQ : ∀ m', lI V m0 k what m' → fwI (vN V) (K + 1) (vE V what) (lT m' what) → (∀ a b, 0 ≤ a → a < 12 → 0 ≤ b → b < 12 → lT m' what a b ≤ 9999 * 2 ^ (K + 1).toNat) → GL iX11_lay m' 288 [(2, 139), (9, 0), (9, 0), (0, what), (0, K + 1), (9, 0), (9, 0), (9, 0), (9, 0)] [] Q) : GL iX11_lay m 298 [(2, 139), (9, 0), (9, 0), (0, what), (0, K), (0, 0), (9, 0), (9, 0), (9, 0)] [] Q := by
  have hP : (2 : Int) ^ (K + 1).toNat = 2 * 2 ^ K.toNat := by
    rw [show (K + 1).toNat = K.toNat + 1 by omega, Int.pow_succ]
    omega
  have hP2 : (2 : Int) ^ K.toNat ≤ 2 ^ 11 := p2le (by omega)
  have hP0 : (0 : Int) < 2 ^ K.toNat := Int.pow_pos (by decide)
  have hn := vN_e ht
  have hN := ht.1
  generalize hB0 : (2 : Int) ^ K.toNat = B at *
  have hKK : ∀ a, 0 ≤ a → a < 12 → (0 ≤ lT m what a K ∨ 0 ≤ lT m what K a) → lT m what K K = 0 := by
    intro a a0 a1 h
    have hv : K < (vN V : Int) := by
      rcases h with h | h
      · rcases hT.1 a K a0 a1 K0 K1 with z | ⟨-, k, z⟩
        · omega
        · exact (walk_nn (vE_ok ht what) z).2.2.2.2
      · rcases hT.1 K a K0 K1 a0 a1 with z | ⟨-, k, z⟩
        · omega
        · exact (walk_nn (vE_ok ht what) z).2.2.1
    have := hT.2 K K 0 0 ⟨rfl, K0, hv, rfl⟩
    omega
  -- within the round
  have inv : ∀ a m1, (0 ≤ a ∧ a ≤ 12 ∧ lI V m0 k what m1 ∧ lS V what (lT m1 what) ∧ (∀ p q, 0 ≤ p → p < 12 → 0 ≤ q → q < 12 → 0 ≤ lT m what p q → 0 ≤ lT m1 what p q ∧ lT m1 what p q ≤ lT m what p q) ∧ (∀ p, 0 ≤ p → p < 12 → lT m1 what p K = lT m what p K ∧ lT m1 what K p = lT m what K p) ∧ (∀ p q, 0 ≤ p → p < 12 → 0 ≤ q → q < 12 → lT m1 what p q ≤ 9999 * (2 * B)) ∧ ∀ p q, 0 ≤ p → p < a → 0 ≤ q → q < 12 → 0 ≤ lT m what p K → 0 ≤ lT m what K q → 0 ≤ lT m1 what p q ∧ lT m1 what p q ≤ lT m what p K + lT m what K q) → GL iX11_lay m1 298 [(2, 139), (9, 0), (9, 0), (0, what), (0, K), (0, a), (9, 0), (9, 0), (9, 0)] [] Q := by
    refine lup (n := 12) (I := fun a m1 => 0 ≤ a ∧ a ≤ 12 ∧ lI V m0 k what m1 ∧ lS V what (lT m1 what) ∧ (∀ p q, 0 ≤ p → p < 12 → 0 ≤ q → q < 12 → 0 ≤ lT m what p q → 0 ≤ lT m1 what p q ∧ lT m1 what p q ≤ lT m what p q) ∧ (∀ p, 0 ≤ p → p < 12 → lT m1 what p K = lT m what p K ∧ lT m1 what K p = lT m what K p) ∧ (∀ p q, 0 ≤ p → p < 12 → 0 ≤ q → q < 12 → lT m1 what p q ≤ 9999 * (2 * B)) ∧ ∀ p q, 0 ≤ p → p < a → 0 ≤ q → q < 12 → 0 ≤ lT m what p K → 0 ≤ lT m what K q → 0 ≤ lT m1 what p q ∧ lT m1 what p q ≤ lT m what p K + lT m what K q) (G := fun a m1 => GL iX11_lay m1 298 [(2, 139), (9, 0), (9, 0), (0, what), (0, K), (0, a), (9, 0), (9, 0), (9, 0)] [] Q) ?_ ?_
    · rintro a m1 ha ⟨a0, -, i1, i2, i3, i4, i5, i6⟩ K1'
      refine sX11_lay_298 ⟨fun c => absurd c (by omega), fun _ => ?_⟩
      refine lup (n := 12) (I := fun b m2 => 0 ≤ b ∧ b ≤ 12 ∧ lI V m0 k what m2 ∧ lS V what (lT m2 what) ∧ (∀ p q, 0 ≤ p → p < 12 → 0 ≤ q → q < 12 → 0 ≤ lT m what p q → 0 ≤ lT m2 what p q ∧ lT m2 what p q ≤ lT m what p q) ∧ (∀ p, 0 ≤ p → p < 12 → lT m2 what p K = lT m what p K ∧ lT m2 what K p = lT m what K p) ∧ (∀ p q, 0 ≤ p → p < 12 → 0 ≤ q → q < 12 → lT m2 what p q ≤ 9999 * (2 * B)) ∧ ∀ p q, 0 ≤ p → 0 ≤ q → q < 12 → (p < a ∨ (p = a ∧ q < b)) → 0 ≤ lT m what p K → 0 ≤ lT m what K q → 0 ≤ lT m2 what p q ∧ lT m2 what p q ≤ lT m what p K + lT m what K q) (G := fun b m2 => GL iX11_lay m2 308 [(2, 139), (9, 0), (9, 0), (0, what), (0, K), (0, a), (0, b), (9, 0), (9, 0)] [] Q) ?_ ?_ 0 m1 ⟨by decide, by decide, i1, i2, i3, i4, i5, fun p q p0 q0 q1 h => i6 p q p0 (by omega) q0 q1⟩
      · rintro b m2 hb ⟨b0, -, j1, j2, j3, j4, j5, j6⟩ K2
        have eaK := (j4 a a0 ha).1
        have eKb := (j4 b b0 hb).2
        have baK := hB a K a0 ha K0 K1
        have bKb := hB K b K0 K1 b0 hb
        refine sX11_lay_308 ?_
        rw [jw_id (x := 144 * what) (by omega) (by omega), jw_id (x := 12 * a) (by omega) (by omega), jw_id (x := 12 * K) (by omega) (by omega), jw_id (x := 144 * what + 12 * a) (by omega) (by omega), jw_id (x := 144 * what + 12 * K) (by omega) (by omega), jw_id (x := 144 * what + 12 * a + K) (by omega) (by omega), jw_id (x := 144 * what + 12 * K + b) (by omega) (by omega), jw_id (x := b + 1) (by omega) (by omega), show m2 191 (144 * what + 12 * a + K) = lT m what a K from eaK, show m2 191 (144 * what + 12 * K + b) = lT m what K b from eKb]
        have skip : ¬ (0 ≤ lT m what a K ∧ 0 ≤ lT m what K b) → GL iX11_lay m2 308 [(2, 139), (9, 0), (9, 0), (0, what), (0, K), (0, a), (0, b + 1), (9, 0), (9, 0)] [] Q := fun hno => K2 m2 ⟨by omega, by omega, j1, j2, j3, j4, j5, fun p q p0 q0 q1 h g1 g2 => by
          by_cases e : p = a ∧ q = b
          · rw [e.1] at g1
            rw [e.2] at g2
            exact absurd ⟨g1, g2⟩ hno
          · exact j6 p q p0 q0 q1 (by omega) g1 g2⟩
        refine ⟨fun c => absurd c (by omega), fun _ => ⟨by omega, by omega, by omega, by omega, fun c => skip (by omega), fun c => ⟨fun c2 => skip (by omega), fun c2 => ?_⟩⟩⟩
        rw [jw_id (x := lT m what a K + lT m what K b) (by omega) (by omega)]
        refine c_join w0 w1 a0 ha b0 hb ?_
        have hK0 := hKK a a0 ha (Or.inl (by omega))
        have tj := fun p q p0 p1 q0 q1 => lT_join (m := m2) (what := what) (v := lT m what a K + lT m what K b) a0 ha b0 hb p q p0 p1 q0 q1
        have hw : ∃ kk, walk (vN V) (vE V what) kk a b (lT m what a K + lT m what K b) := by
          rcases hT.1 a K a0 ha K0 K1 with z | ⟨-, k1, z1⟩
          · omega
          · rcases hT.1 K b K0 K1 b0 hb with z | ⟨-, k2, z2⟩
            · omega
            · exact ⟨k1 + k2, walk_app z1 z2⟩
        have nj := lI_join (v := lT m what a K + lT m what K b) j1 a0 ha b0 hb
        generalize (if m2 191 (lx what a b) < 0 ∨ lT m what a K + lT m what K b < m2 191 (lx what a b) then jup m2 191 (lx what a b) (lT m what a K + lT m what K b) else m2) = m3 at tj nj ⊢
        refine K2 m3 ⟨by omega, by omega, nj, fun p q p0 p1 q0 q1 => ?_, fun p q p0 p1 q0 q1 hM => ?_, fun p p0 p1 => ?_, fun p q p0 p1 q0 q1 => ?_, fun p q p0 q0 q1 h g1 g2 => ?_⟩
        · rw [tj p q p0 p1 q0 q1]
          split
          · rename_i z
            rw [z.1, z.2.1]
            exact Or.inr ⟨by omega, hw⟩
          · exact j2 p q p0 p1 q0 q1
        · have := j3 p q p0 p1 q0 q1 hM
          rw [tj p q p0 p1 q0 q1]
          split
          · rename_i z
            rw [z.1, z.2.1] at this ⊢
            omega
          · exact this
        · have h4 := j4 p p0 p1
          rw [tj p K p0 p1 K0 K1, tj K p K0 K1 p0 p1]
          constructor
          · split
            · rename_i z
              have e1 : lT m2 what a b = lT m what a b := by
                have := (j4 a a0 ha).1
                rw [z.2.1] at this
                exact this
              have e2 : lT m what K b = 0 := by rw [← z.2.1]; exact hK0
              have e3 : lT m what a K = lT m what a b := by rw [z.2.1]
              have e4 : lT m what p K = lT m what a K := by rw [z.1]
              omega
            · exact h4.1
          · split
            · rename_i z
              have e1 : lT m2 what a b = lT m what a b := by
                have := (j4 b b0 hb).2
                rw [z.1] at this
                exact this
              have e2 : lT m what a K = 0 := by rw [← z.1]; exact hK0
              have e3 : lT m what K b = lT m what a b := by rw [z.1]
              have e4 : lT m what K p = lT m what K b := by rw [z.2.1]
              omega
            · exact h4.2
        · rw [tj p q p0 p1 q0 q1]
          split
          · omega
          · exact j5 p q p0 p1 q0 q1
        · rw [tj p q p0 (by omega) q0 q1]
          by_cases e : p = a ∧ q = b
          · rw [e.1, e.2]
            split
            · omega
            · rename_i z
              have : ¬ (lT m2 what a b < 0 ∨ lT m what a K + lT m what K b < lT m2 what a b) := fun y => z ⟨rfl, rfl, y⟩
              omega
          · rw [if_neg (fun z => e ⟨z.1, z.2.1⟩)]
            exact j6 p q p0 q0 q1 (by omega) g1 g2
      · rintro b m2 hb ⟨b0, b1, j1, j2, j3, j4, j5, j6⟩
        obtain rfl : b = 12 := by omega
        refine sX11_lay_308 ⟨fun _ => ?_, fun c => absurd hb c⟩
        rw [jw_id (x := a + 1) (by omega) (by omega)]
        exact K1' m2 ⟨by omega, by omega, j1, j2, j3, j4, j5, fun p q p0 p1 q0 q1 => j6 p q p0 q0 q1 (by omega)⟩
    · rintro a m1 ha ⟨a0, a1, i1, i2, i3, i4, i5, i6⟩
      obtain rfl : a = 12 := by omega
      refine sX11_lay_298 ⟨fun _ => ?_, fun c => absurd ha c⟩
      rw [jw_id (x := K + 1) (by omega) (by omega)]
      refine hQ m1 i1 (fw_step (vE_ok ht what) hT ⟨K0, K1⟩ (by omega) i2 i3 (fun a b a0 a1 b0 b1 => i6 a b a0 (by omega) b0 b1)) (fun a b a0 a1 b0 b1 => ?_)
      rw [hP]
      exact i5 a b a0 a1 b0 b1
  exact inv 0 m ⟨by decide, by decide, hI, hT.1, fun p q p0 p1 q0 q1 h => ⟨h, Int.le_refl _⟩, fun p p0 p1 => ⟨rfl, rfl⟩, fun p q p0 p1 q0 q1 => by have := hB p q p0 p1 q0 q1; omega, fun p q p0 p1 => by omega⟩
/-- one kind of least sums, from the empty table on -/
theorem c_layW {V m0 m : jM} {Q : Int → jM → Prop} {k what : Int} (ht : vKt V) (hrt : vRt V k m0) (w0 : 0 ≤ what) (w1 : what < 3) (hI : lI V m0 k what m) (hQ : ∀ m', lI V m0 k (what + 1) m' → GL iX11_lay m' 95 [(2, 139), (9, 0), (9, 0), (0, what + 1), (9, 0), (9, 0), (9, 0), (9, 0), (9, 0)] [] Q) : GL iX11_lay m 103 [(2, 139), (9, 0), (9, 0), (0, what), (0, 0), (9, 0), (9, 0), (9, 0), (9, 0)] [] Q := by
  have hn := vN_e ht
  have hN := ht.1
  have k0 := hrt.1
  have rt : ∀ m1, lI V m0 k what m1 → vRt V k m1 := fun m1 h => vRt_fr hrt (fun p hp => frx_row h.1 p (by
    intro z
    simp only [List.mem_cons, List.not_mem_nil, or_false] at hp z
    omega) (by
    intro q hq
    simp only [List.mem_cons, List.not_mem_nil, or_false] at hp hq
    rw [hq]
    simp only
    omega))
  refine lup (n := 144) (I := fun c m1 => 0 ≤ c ∧ c ≤ 144 ∧ lI V m0 k what m1 ∧ ∀ c', 0 ≤ c' → c' < c → m1 191 (144 * what + c') = if c' / 12 = c' % 12 ∧ c' / 12 < V 0 0 then 0 else -1) (G := fun c m1 => GL iX11_lay m1 103 [(2, 139), (9, 0), (9, 0), (0, what), (0, c), (9, 0), (9, 0), (9, 0), (9, 0)] [] Q) ?_ ?_ 0 m ⟨by decide, by decide, hI, fun c' h0 h1 => by omega⟩
  · rintro c m1 hc ⟨c0, -, i1, i2⟩ K
    have r1 := rt m1 i1
    have jd := jdr c0 hc
    refine sX11_lay_103 ?_
    rw [jd.1, jd.2, jw_id (x := 144 * what) (by omega) (by omega), jw_id (x := 144 * what + c) (by omega) (by omega), jw_id (x := c + 1) (by omega) (by omega), i1.2.1, r1.1.2.2.1]
    have up : ∀ v, v = (if c / 12 = c % 12 ∧ c / 12 < V 0 0 then 0 else -1) → GL iX11_lay (jup m1 191 (144 * what + c) v) 103 [(2, 139), (9, 0), (9, 0), (0, what), (0, c + 1), (9, 0), (9, 0), (9, 0), (9, 0)] [] Q := by
      intro v hv
      refine K _ ⟨by omega, by omega, ⟨frx_upA i1.1 (by decide), i1.2.1, ?_, fun w g0 g1 a b a0 a1 b0 b1 => ?_⟩, fun c' h0 h1 => ?_⟩
      · have := i1.2.2.1
        unfold vShR at this ⊢
        rw [jup_ne (by decide)]
        exact this
      · have := i1.2.2.2 w g0 g1 a b a0 a1 b0 b1
        unfold lT at this ⊢
        rw [jup_self, if_neg (by unfold lx; omega)]
        exact this
      · rw [jup_self]
        by_cases e : c' = c
        · rw [if_pos (by rw [e]), hv, e]
        · rw [if_neg (by omega)]
          exact i2 c' h0 (by omega)
    refine ⟨fun z => absurd z (by omega), fun _ => ⟨fun z => ⟨by omega, by omega, up _ ?_⟩, fun z => ⟨k0.1, k0.2.1, fun z2 => ⟨by omega, by omega, up _ ?_⟩, fun z2 => ⟨by omega, by omega, up _ ?_⟩⟩⟩⟩
    · rw [if_neg (fun y => z y.1)]
    · rw [if_neg (fun y => by omega)]
    · rw [if_pos ⟨Classical.byContradiction z, by omega⟩]
  · rintro c m1 hc ⟨c0, c1, i1, i2⟩
    obtain rfl : c = 144 := by omega
    refine sX11_lay_103 ⟨fun _ => ?_, fun z => absurd hc z⟩
    have ini : ∀ a b, 0 ≤ a → a < 12 → 0 ≤ b → b < 12 → lT m1 what a b = if a = b ∧ a < V 0 0 then 0 else -1 := by
      intro a b a0 a1 b0 b1
      have := i2 (12 * a + b) (by omega) (by omega)
      unfold lT lx
      rw [show 144 * what + 12 * a + b = 144 * what + (12 * a + b) by omega, this]
      have e1 : (12 * a + b) / 12 = a := by omega
      have e2 : (12 * a + b) % 12 = b := by omega
      rw [e1, e2]
    refine lup (n := V 0 1) (I := fun w m2 => 0 ≤ w ∧ w ≤ V 0 1 ∧ lI V m0 k what m2 ∧ lS V what (lT m2 what) ∧ (∀ a b, 0 ≤ a → a < 12 → 0 ≤ b → b < 12 → lT m2 what a b ≤ 9999) ∧ (∀ a, 0 ≤ a → a < V 0 0 → lT m2 what a a = 0) ∧ ∀ i, 0 ≤ i → i < w → vOpen V what i → (0 ≤ lT m2 what (V 1 i) (V 2 i) ∧ lT m2 what (V 1 i) (V 2 i) ≤ vLen V what i) ∧ (0 ≤ lT m2 what (V 2 i) (V 1 i) ∧ lT m2 what (V 2 i) (V 1 i) ≤ vLen V what i)) (G := fun w m2 => GL iX11_lay m2 168 [(2, 139), (9, 0), (9, 0), (0, what), (0, w), (9, 0), (9, 0), (9, 0), (9, 0)] [] Q) ?_ ?_ 0 m1 ⟨by decide, by omega, i1, fun a b a0 a1 b0 b1 => ?_, fun a b a0 a1 b0 b1 => ?_, fun a a0 a1 => ?_, fun i g0 g1 => by omega⟩
    · rintro w m2 hw ⟨v0, -, j1, j2, j3, j4, j5⟩ K
      have r2 := rt m2 j1
      have tw := ht.2.1 w v0 hw
      have qw := r2.2.1 w v0 (by omega)
      have bl := vLen_bd ht (what := what) v0 hw
      refine sX11_lay_168 ?_
      rw [j1.2.1, r2.1.2.2.2.1]
      refine ⟨k0.1, k0.2.1, fun z => absurd z (by omega), fun _ => ?_⟩
      refine c_isOpen r2 j1.2.1 j1.2.2.1 v0 (by omega) (fun r h1 h0 => ?_)
      rw [jw_id (x := w + 1) (by omega) (by omega), j1.2.1, jw_id (x := 24 * k) (by omega) (by omega), jw_id (x := 24 * k + w) (by omega) (by omega), qw.1, qw.2.1]
      refine ⟨fun c => ?_, fun c => K m2 ⟨by omega, by omega, j1, j2, j3, j4, fun i g0 g1 ho => ?_⟩⟩
      · have ho : vOpen V what w := Classical.byContradiction (fun z => c (h0 z))
        have hE : vE V what (V 1 w) (V 2 w) (vLen V what w) := ⟨w, v0, hw, ho, Or.inl ⟨rfl, rfl⟩, rfl⟩
        refine ⟨by omega, by omega, by omega, by omega, c_weightOf r2 j1.2.1 v0 (by omega) (c_join w0 w1 tw.1 (by omega) tw.2.2.1 (by omega) ?_)⟩
        have n1 := lI_join (v := vLen V what w) j1 tw.1 (by omega : V 1 w < 12) tw.2.2.1 (by omega : V 2 w < 12)
        have t1 := fun p q p0 p1 q0 q1 => lT_join (m := m2) (what := what) (v := vLen V what w) tw.1 (by omega : V 1 w < 12) tw.2.2.1 (by omega : V 2 w < 12) p q p0 p1 q0 q1
        generalize (if m2 191 (lx what (V 1 w) (V 2 w)) < 0 ∨ vLen V what w < m2 191 (lx what (V 1 w) (V 2 w)) then jup m2 191 (lx what (V 1 w) (V 2 w)) (vLen V what w) else m2) = m3 at n1 t1 ⊢
        have r3 := rt m3 n1
        have qw3 := r3.2.1 w v0 (by omega)
        rw [n1.2.1, jw_id (x := 24 * k) (by omega) (by omega), jw_id (x := 24 * k + w) (by omega) (by omega), qw3.1, qw3.2.1]
        refine ⟨by omega, by omega, by omega, by omega, c_weightOf r3 n1.2.1 v0 (by omega) (c_join w0 w1 tw.2.2.1 (by omega) tw.1 (by omega) ?_)⟩
        have n2 := lI_join (v := vLen V what w) n1 tw.2.2.1 (by omega : V 2 w < 12) tw.1 (by omega : V 1 w < 12)
        have t2 := fun p q p0 p1 q0 q1 => lT_join (m := m3) (what := what) (v := vLen V what w) tw.2.2.1 (by omega : V 2 w < 12) tw.1 (by omega : V 1 w < 12) p q p0 p1 q0 q1
        generalize (if m3 191 (lx what (V 2 w) (V 1 w)) < 0 ∨ vLen V what w < m3 191 (lx what (V 2 w) (V 1 w)) then jup m3 191 (lx what (V 2 w) (V 1 w)) (vLen V what w) else m3) = m4 at n2 t2 ⊢
        -- what one join does to a cell
        have cell : ∀ p q, 0 ≤ p → p < 12 → 0 ≤ q → q < 12 → (lT m4 what p q = lT m2 what p q ∨ (lT m4 what p q = vLen V what w ∧ ((p = V 1 w ∧ q = V 2 w) ∨ (p = V 2 w ∧ q = V 1 w)) ∧ (lT m2 what p q < 0 ∨ vLen V what w < lT m2 what p q))) := by
          intro p q p0 p1 q0 q1
          rw [t2 p q p0 p1 q0 q1]
          split
          · rename_i z
            rw [t1 _ _ tw.2.2.1 (by omega) tw.1 (by omega)] at z
            refine Or.inr ⟨rfl, Or.inr ⟨z.1, z.2.1⟩, ?_⟩
            rw [z.1, z.2.1]
            have := z.2.2
            split at this
            · omega
            · exact this
          · rw [t1 p q p0 p1 q0 q1]
            split
            · rename_i z
              rw [z.1, z.2.1]
              exact Or.inr ⟨rfl, Or.inl ⟨rfl, rfl⟩, z.2.2⟩
            · exact Or.inl rfl
        have ab : 0 ≤ lT m4 what (V 1 w) (V 2 w) ∧ lT m4 what (V 1 w) (V 2 w) ≤ vLen V what w := by
          rw [t2 _ _ tw.1 (by omega) tw.2.2.1 (by omega)]
          split
          · omega
          · rw [t1 _ _ tw.1 (by omega) tw.2.2.1 (by omega)]
            split
            · omega
            · rename_i z
              have : ¬ (lT m2 what (V 1 w) (V 2 w) < 0 ∨ vLen V what w < lT m2 what (V 1 w) (V 2 w)) := fun y => z ⟨rfl, rfl, y⟩
              omega
        have ba : 0 ≤ lT m4 what (V 2 w) (V 1 w) ∧ lT m4 what (V 2 w) (V 1 w) ≤ vLen V what w := by
          rw [t2 _ _ tw.2.2.1 (by omega) tw.1 (by omega)]
          split
          · omega
          · rename_i z
            have : ¬ (lT m3 what (V 2 w) (V 1 w) < 0 ∨ vLen V what w < lT m3 what (V 2 w) (V 1 w)) := fun y => z ⟨rfl, rfl, y⟩
            omega
        refine K m4 ⟨by omega, by omega, n2, fun p q p0 p1 q0 q1 => ?_, fun p q p0 p1 q0 q1 => ?_, fun p p0 p1 => ?_, fun i g0 g1 hoi => ?_⟩
        · rcases cell p q p0 p1 q0 q1 with z | ⟨z1, z2, z3⟩
          · rw [z]; exact j2 p q p0 p1 q0 q1
          · refine Or.inr ⟨by omega, 1, ?_⟩
            rw [z1]
            rcases z2 with z2 | z2
            · rw [z2.1, z2.2]; exact walk_one (vE_ok ht what) hE
            · rw [z2.1, z2.2]; exact walk_one (vE_ok ht what) (vE_sym what _ _ _ hE)
        · rcases cell p q p0 p1 q0 q1 with z | ⟨z1, z2, z3⟩
          · rw [z]; exact j3 p q p0 p1 q0 q1
          · omega
        · have := j4 p p0 p1
          rcases cell p p p0 (by omega) p0 (by omega) with z | ⟨z1, z2, z3⟩
          · rw [z]; exact this
          · omega
        · by_cases e : i = w
          · rw [e]; exact ⟨ab, ba⟩
          · have h5 := j5 i g0 (by omega) hoi
            have ti := ht.2.1 i g0 (by omega)
            have c1 := cell (V 1 i) (V 2 i) ti.1 (by omega) ti.2.2.1 (by omega)
            have c2 := cell (V 2 i) (V 1 i) ti.2.2.1 (by omega) ti.1 (by omega)
            refine ⟨?_, ?_⟩
            · rcases c1 with z | ⟨z1, z2, z3⟩ <;> omega
            · rcases c2 with z | ⟨z1, z2, z3⟩ <;> omega
      · by_cases e : i = w
        · rw [e] at ho
          exact absurd (h1 ho) (by intro y; rw [y] at c; exact c (by decide))
        · exact j5 i g0 (by omega) ho
    · rintro w m2 hw ⟨v0, v1, j1, j2, j3, j4, j5⟩
      obtain rfl : w = V 0 1 := by omega
      have r2 := rt m2 j1
      refine sX11_lay_168 ?_
      rw [j1.2.1, r2.1.2.2.2.1]
      refine ⟨k0.1, k0.2.1, fun _ => ?_, fun z => absurd (Int.le_refl _) z⟩
      have f0 : fwI (vN V) 0 (vE V what) (lT m2 what) := by
        refine ⟨j2, fun a b kk s hw => ?_⟩
        cases kk with
        | zero =>
          obtain ⟨e, a0, a1, es⟩ := hw
          rw [← e, es, j4 a a0 (by omega)]
          exact ⟨Int.le_refl _, Int.le_refl _⟩
        | succ kk =>
          obtain ⟨c, s', l, h1, hc, hE, e3⟩ := hw
          cases kk with
          | zero =>
            obtain ⟨e, a0, a1, es⟩ := h1
            obtain ⟨i, g0, g1, ho, hxy, el⟩ := hE
            have := j5 i g0 g1 ho
            rcases hxy with ⟨x1, x2⟩ | ⟨x1, x2⟩
            · rw [x1, x2] at this
              rw [e]
              omega
            · rw [x1, x2] at this
              rw [e]
              omega
          | succ kk =>
            have := hc (by omega)
            have := (vE_ok ht what _ _ _ hE).1
            omega
      refine lup (n := 12) (I := fun K m3 => 0 ≤ K ∧ K ≤ 12 ∧ lI V m0 k what m3 ∧ fwI (vN V) K (vE V what) (lT m3 what) ∧ ∀ a b, 0 ≤ a → a < 12 → 0 ≤ b → b < 12 → lT m3 what a b ≤ 9999 * 2 ^ K.toNat) (G := fun K m3 => GL iX11_lay m3 288 [(2, 139), (9, 0), (9, 0), (0, what), (0, K), (9, 0), (9, 0), (9, 0), (9, 0)] [] Q) ?_ ?_ 0 m2 ⟨by decide, by decide, j1, f0, fun a b a0 a1 b0 b1 => by simpa using j3 a b a0 a1 b0 b1⟩
      · rintro K m3 hK ⟨K0, -, g1, g2, g3⟩ KK
        exact sX11_lay_288 ⟨fun z => absurd z (by omega), fun _ => c_layK ht w0 w1 K0 hK g1 g2 g3 (fun m4 x1 x2 x3 => KK m4 ⟨by omega, by omega, x1, x2, x3⟩)⟩
      · rintro K m3 hK ⟨K0, K1, g1, g2, g3⟩
        obtain rfl : K = 12 := by omega
        refine sX11_lay_288 ⟨fun _ => ?_, fun z => absurd hK z⟩
        rw [jw_id (x := what + 1) (by omega) (by omega)]
        refine hQ m3 ⟨g1.1, g1.2.1, g1.2.2.1, fun w x0 x1 a b a0 a1 b0 b1 => ?_⟩
        by_cases e : w = what
        · rw [e]
          exact fw_end (vE_ok ht what) (fwI_mono (vE_ok ht what) g2 (by omega)) a0 a1 b0 b1
        · exact g1.2.2.2 w x0 (by omega) a b a0 a1 b0 b1
    · rw [ini a b a0 a1 b0 b1]
      split
      · rename_i z
        exact Or.inr ⟨Int.le_refl _, 0, z.1, a0, by omega, rfl⟩
      · exact Or.inl rfl
    · rw [ini a b a0 a1 b0 b1]
      split <;> omega
    · rw [ini a a a0 (by omega) a0 (by omega), if_pos ⟨rfl, a1⟩]
theorem c_lay {V m : jM} {Q : Int → jM → Prop} {k : Int} (hk : vKf V) (ht : vKt V) (hr : vRf V m) (hrt : vRt V k m) (hx : 0 ≤ m 139 12 ∧ m 139 12 ≤ 3) (hf : frc m (V 0 5) = k) (hQ : ∀ m', lI V m k 3 m' → Q 0 m') : ML iX11_lay [(2, 139), (0, V 0 5), (0, V 0 6)] m Q := by
  have tk := hk.1
  have tr := hr.1
  have k0 := hrt.1
  refine sX11_lay (c_force hx.1 hx.2 ?_)
  rw [hf]
  refine lup (n := 24) (I := fun w m1 => 0 ≤ w ∧ w ≤ 24 ∧ frx [190, 191] [(139, 69)] m m1 ∧ m1 139 69 = k ∧ ∀ x, 0 ≤ x → x < w → m1 190 x = 0) (G := fun w m1 => GL iX11_lay m1 11 [(2, 139), (0, V 0 5), (0, V 0 6), (0, w), (9, 0), (9, 0), (9, 0), (9, 0), (9, 0)] [] Q) ?_ ?_ 0 _ ⟨by decide, by decide, frx_upF frx_rf (by decide), jup_s, fun x x0 x1 => by omega⟩
  · rintro w m1 hw ⟨w0, -, i1, i2, i3⟩ K
    refine sX11_lay_11 ⟨fun c => absurd c (by omega), fun _ => ⟨w0, hw, ?_⟩⟩
    rw [jw_id (x := w + 1) (by omega) (by omega)]
    refine K _ ⟨by omega, by omega, frx_upA i1 (by decide), i2, fun x x0 x1 => ?_⟩
    rw [jup_self]
    split
    · rfl
    · exact i3 x x0 (by omega)
  · rintro w m1 hw ⟨w0, w1, i1, i2, i3⟩
    obtain rfl : w = 24 := by omega
    refine sX11_lay_11 ⟨fun _ => ?_, fun c => absurd hw c⟩
    refine lup (n := V 0 6) (I := fun j m2 => 0 ≤ j ∧ j ≤ V 0 6 ∧ frx [190, 191] [(139, 69)] m m2 ∧ m2 139 69 = k ∧ ∀ x, 0 ≤ x → x < 24 → (m2 190 x = 0 ∨ m2 190 x = 1) ∧ (m2 190 x = 0 ↔ ¬ vShutN V j x)) (G := fun j m2 => GL iX11_lay m2 32 [(2, 139), (0, V 0 5), (0, V 0 6), (0, j), (9, 0), (9, 0), (9, 0), (9, 0), (9, 0)] [] Q) ?_ ?_ 0 m1 ⟨by decide, by omega, i1, i2, fun x x0 x1 => ⟨Or.inl (i3 x x0 x1), fun _ => by rintro ⟨f, f0, f1, -⟩; omega, fun _ => i3 x x0 x1⟩⟩
    · rintro j m2 hj ⟨j0, -, g1, g2, g3⟩ K
      have rf2 : vRf V m2 := vRf_fr hr (g1 139 44 (by decide) (by decide)) (g1 139 50 (by decide) (by decide)) (fun p hp => frx_row g1 p (by
        intro z
        simp only [List.mem_cons, List.not_mem_nil, or_false] at hp z
        omega) (by
        intro q hq
        simp only [List.mem_cons, List.not_mem_nil, or_false] at hp hq
        rw [hq]
        simp only
        omega))
      have q := rf2.2.1 j j0 hj
      have hv := (hk.2.1 j j0 hj).1
      have no : ¬ (V 10 j = 3 ∧ V 12 j ≤ V 0 5 ∧ V 0 5 ≤ V 13 j ∧ vLv V j) → GL iX11_lay m2 32 [(2, 139), (0, V 0 5), (0, V 0 6), (0, j + 1), (9, 0), (9, 0), (9, 0), (9, 0), (9, 0)] [] Q := by
        intro hn
        refine K m2 ⟨by omega, by omega, g1, g2, fun x x0 x1 => ⟨(g3 x x0 x1).1, ?_⟩⟩
        rw [(g3 x x0 x1).2]
        have : vShutN V (j + 1) x ↔ vShutN V j x := by
          constructor
          · rintro ⟨f, f0, f1, f2, f3, f4, f5, f6⟩
            by_cases e : f = j
            · rw [e] at f2 f3 f4 f5
              exact absurd ⟨f2, f3, f4, f5⟩ hn
            · exact ⟨f, f0, by omega, f2, f3, f4, f5, f6⟩
          · rintro ⟨f, f0, f1, f2⟩
            exact ⟨f, f0, by omega, f2⟩
        rw [this]
      refine sX11_lay_32 ?_
      rw [q.1, q.2.2.1, q.2.2.2.1, jw_id (x := j + 1) (by omega) (by omega)]
      refine ⟨fun c => absurd c (by omega), fun _ => ⟨j0, by omega, fun c => no (fun z => c z.1), fun c => ⟨j0, by omega, j0, by omega, sX11_isIn ⟨fun c2 => ⟨fun _ => no (by omega), fun z => absurd rfl z⟩, fun c2 => ⟨fun c3 => ⟨fun _ => no (by omega), fun z => absurd rfl z⟩, fun c3 => ⟨fun z => absurd z (by decide), fun _ => c_isLive hk rf2 j0 hj (fun r h1 h0 => ⟨fun c4 => no (fun z => ?_), fun c4 => ?_⟩)⟩⟩⟩⟩⟩⟩
      · have := h1 z.2.2.2
        omega
      · have hl : vLv V j := Classical.byContradiction (fun z => c4 (h0 z))
        have c := Classical.byContradiction c
        have ha : 0 ≤ V 11 j ∧ V 11 j < 24 := by unfold fcVal at hv; omega
        rw [q.2.1]
        refine ⟨j0, by omega, ha.1, ha.2, K _ ⟨by omega, by omega, frx_upA g1 (by decide), g2, fun x x0 x1 => ?_⟩⟩
        rw [jup_self]
        by_cases e : x = V 11 j
        · rw [if_pos e]
          refine ⟨Or.inr rfl, fun z => absurd z (by decide), fun z => absurd ⟨j, j0, by omega, c, by omega, by omega, hl, e.symm⟩ z⟩
        · rw [if_neg e]
          refine ⟨(g3 x x0 x1).1, ?_⟩
          rw [(g3 x x0 x1).2]
          have : vShutN V (j + 1) x ↔ vShutN V j x := by
            constructor
            · rintro ⟨f, f0, f1, f2, f3, f4, f5, f6⟩
              by_cases e2 : f = j
              · rw [e2] at f6
                exact absurd f6.symm e
              · exact ⟨f, f0, by omega, f2, f3, f4, f5, f6⟩
            · rintro ⟨f, f0, f1, f2⟩
              exact ⟨f, f0, by omega, f2⟩
          rw [this]
    · rintro j m2 hj ⟨j0, j1, g1, g2, g3⟩
      obtain rfl : j = V 0 6 := by omega
      refine sX11_lay_32 ⟨fun _ => ?_, fun c => absurd (Int.le_refl _) c⟩
      refine lup (n := 3) (I := fun what m3 => 0 ≤ what ∧ what ≤ 3 ∧ lI V m k what m3) (G := fun what m3 => GL iX11_lay m3 95 [(2, 139), (9, 0), (9, 0), (0, what), (9, 0), (9, 0), (9, 0), (9, 0), (9, 0)] [] Q) ?_ ?_ 0 m2 ⟨by decide, by decide, g1, g2, g3, fun w x0 x1 => by omega⟩
      · rintro what m3 hw ⟨v0, -, h3⟩ K
        exact sX11_lay_95 ⟨fun z => absurd z (by omega), fun _ => c_layW ht hrt v0 hw h3 (fun m4 h4 => K m4 ⟨by omega, by omega, h4⟩)⟩
      · rintro what m3 hw ⟨v0, v1, h3⟩
        obtain rfl : what = 3 := by omega
        exact sX11_lay_95 ⟨fun _ => hQ m3 h3, fun z => absurd hw z⟩
