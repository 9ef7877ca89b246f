/-! the class's plan: legs, routes, what is good, the pay -/
theorem sub_iff {x y : Int} (x0 : 0 ≤ x) (x1 : x < 64) (y0 : 0 ≤ y) (y1 : y < 64) : jand x (jxor y (-1)) = 0 ↔ sub6 x y := by
  rw [jsub_iff (by omega) (by omega)]
  constructor
  · intro h i i0 i1; exact h i i0 (by omega)
  · intro h i i0 i1 hx
    by_cases e : i < 6
    · exact h i i0 e hx
    · rw [tb_lt (k := 6) x0 (by simpa using x1) (by decide) (by omega)] at hx
      exact absurd hx (by decide)
def cLg (V : jM) (s p : Int) (m : jM) : Prop := ∀ i, 0 ≤ i → i < 6 → tb (srv V s) i = true → m (p + 7) i = rS V s i ∧ ∀ j, 0 ≤ j → j < V 0 3 → m (p + 8) (i * 6 + j) = rL V i j
theorem c_measure {V m : jM} {Q : Int → jM → Prop} {k s p : Int} (hp : jPl p) (ht : vKt V) (hg : vwG V k m) (k0 : 0 ≤ k) (k3 : k < 3) (s0 : 0 ≤ s) (s1 : s < V 0 2) (hs : m p 8 = srv V s) (hQ : ∀ m', (∀ q, q ≠ p + 7 → q ≠ p + 8 → q ≠ 24 → q ≠ 25 → m' q = m q) → vwG V k m' → cLg V s p m' → Q 0 m') : ML iX3_measure [(2, p), (2, 11), (0, s)] m Q := by
  have hN := ht.1
  have pr : 64 ≤ p ∧ p ≤ 92 := by unfold jPl at hp; omega
  have so := srv_ok ht s
  have t1 := hg.2.1.2.1
  have tx := t1.1
  have e2 : m 11 2 = 27 + 12 * k := hg.2.1.1.1
  refine sX3_measure hp ?_
  rw [e2, (t1.2.2.2.2.1 s s0 s1).1]
  refine ⟨s0, by omega, ?_⟩
  refine lup (n := V 0 3) (I := fun i m1 => 0 ≤ i ∧ i ≤ V 0 3 ∧ (∀ q, q ≠ p + 7 → q ≠ p + 8 → q ≠ 24 → q ≠ 25 → m1 q = m q) ∧ vwG V k m1 ∧ ∀ x, 0 ≤ x → x < i → tb (srv V s) x = true → m1 (p + 7) x = rS V s x ∧ ∀ j, 0 ≤ j → j < V 0 3 → m1 (p + 8) (x * 6 + j) = rL V x j) (G := fun i m1 => GL iX3_measure m1 22 [(2, p), (2, 11), (9, 0), (0, V 6 s), (2, 27 + 12 * k + 7), (0, i), (9, 0)] [] Q) ?_ ?_ 0 m ⟨by decide, by omega, fun q _ _ _ _ => rfl, hg, fun x x0 x1 => by omega⟩
  · rintro i m1 hi ⟨i0, -, f1, g1, h1⟩ K
    have e21 : m1 11 2 = 27 + 12 * k := g1.2.1.1.1
    have c1 := g1.2.1.2.1
    have e11 : m1 (27 + 12 * k) 11 = V 0 3 := c1.2.1.2.2.2.1
    have es : m1 p 8 = srv V s := by rw [f1 p (by omega) (by omega) (by omega) (by omega)]; exact hs
    refine sX3_measure_22 hp tx ?_
    rw [e21, e11, es, jshr_bit (by omega) i0 (by omega), jw_id (x := i + 1) (by omega) (by omega), c1.2.2.2.2.2.1 i i0 hi]
    refine ⟨fun z => absurd z (by omega), fun _ => ⟨fun z => K m1 ⟨by omega, by omega, f1, g1, fun x x0 x1 hx => ?_⟩, fun z => ⟨i0, by omega, c_sumOf ht g1.2.1 (by decide) (by decide) (fun m2 f2 b2 => ⟨i0, by omega, ?_⟩)⟩⟩⟩
    · by_cases e : x = i
      · rw [e] at hx
        rw [if_pos hx] at z
        exact absurd z (by decide)
      · exact h1 x x0 (by omega) hx
    · have g2 := vwG_sums g1 b2 f2 k0
      have r2 : ∀ q, q ≠ 24 → q ≠ 25 → m2 q = m1 q := fun q h24 h25 => frx_row f2 q (by simp [h24, h25]) (by intro y hy; cases hy)
      have g3 : vwG V k (jup m2 (p + 7) i (enc (vD V 2 (V 8 i) (V 6 s)))) := vwG_lo g2 k0 k3 (fun q hq => jup_ne (by omega))
      refine lup (n := V 0 3) (I := fun j m3 => 0 ≤ j ∧ j ≤ V 0 3 ∧ (∀ q, q ≠ p + 8 → q ≠ 24 → q ≠ 25 → m3 q = jup m2 (p + 7) i (enc (vD V 2 (V 8 i) (V 6 s))) q) ∧ vwG V k m3 ∧ (∀ y, y < i * 6 ∨ i * 6 + 6 ≤ y → m3 (p + 8) y = m1 (p + 8) y) ∧ ∀ y, 0 ≤ y → y < j → m3 (p + 8) (i * 6 + y) = rL V i y) (G := fun j m3 => GL iX3_measure m3 67 [(2, p), (2, 11), (9, 0), (0, V 6 s), (2, 27 + 12 * k + 7), (0, i), (0, j)] [] Q) ?_ ?_ 0 _ ⟨by decide, by omega, fun q _ _ _ => rfl, g3, fun y hy => by rw [jup_ne (by omega), r2 _ (by omega) (by omega)], fun y y0 y1 => by omega⟩
      · rintro j m3 hj ⟨j0, -, f3, g3, o3, h3⟩ K2
        have c3 := g3.2.1.2.1
        have e23 : m3 11 2 = 27 + 12 * k := g3.2.1.1.1
        have e13 : m3 (27 + 12 * k) 11 = V 0 3 := c3.2.1.2.2.2.1
        refine sX3_measure_67 hp tx ?_
        rw [e23, e13, jw_id (x := i + 1) (by omega) (by omega), jw_id (x := j + 1) (by omega) (by omega), jw_id (x := i * 6) (by omega) (by omega), jw_id (x := i * 6 + j) (by omega) (by omega), c3.2.2.2.2.2.1 i i0 hi, c3.2.2.2.2.2.1 j j0 hj]
        refine ⟨fun z => absurd z (by omega), fun _ => ⟨i0, by omega, j0, by omega, c_sumOf ht g3.2.1 (by decide) (by decide) (fun m4 f4 b4 => ⟨by omega, by omega, ?_⟩)⟩⟩
        have r4 : ∀ q, q ≠ 24 → q ≠ 25 → m4 q = m3 q := fun q h24 h25 => frx_row f4 q (by simp [h24, h25]) (by intro y hy; cases hy)
        refine K2 _ ⟨by omega, by omega, fun q q8 h24 h25 => by rw [jup_ne q8, r4 q h24 h25]; exact f3 q q8 h24 h25, vwG_lo (vwG_sums g3 b4 f4 k0) k0 k3 (fun q hq => jup_ne (by omega)), fun y hy => ?_, fun y y0 y1 => ?_⟩
        · rw [jup_self, if_neg (by omega), r4 _ (by omega) (by omega)]; exact o3 y hy
        · rw [jup_self, r4 _ (by omega) (by omega)]
          by_cases e : y = j
          · rw [if_pos (by omega), e]
            unfold rL
            rw [if_neg (by omega)]
          · rw [if_neg (by omega)]
            exact h3 y y0 (by omega)
      · rintro j m3 hj ⟨j0, j1, f3, g3, o3, h3⟩
        obtain rfl : j = V 0 3 := by omega
        have e23 : m3 11 2 = 27 + 12 * k := g3.2.1.1.1
        have e13 : m3 (27 + 12 * k) 11 = V 0 3 := g3.2.1.2.1.2.1.2.2.2.1
        refine sX3_measure_67 hp tx ?_
        rw [e23, e13, jw_id (x := i + 1) (by omega) (by omega)]
        refine ⟨fun _ => K m3 ⟨by omega, by omega, fun q h7 h8 h24 h25 => by rw [f3 q h8 h24 h25, jup_ne h7, r2 q h24 h25]; exact f1 q h7 h8 h24 h25, g3, fun x x0 x1 hx => ?_⟩, fun z => absurd (Int.le_refl _) z⟩
        by_cases e : x = i
        · rw [e]
          refine ⟨?_, h3⟩
          rw [f3 (p + 7) (by omega) (by omega) (by omega), jup_s]
          rfl
        · refine ⟨?_, fun y y0 y1 => ?_⟩
          · rw [f3 (p + 7) (by omega) (by omega) (by omega), jup_self, if_neg e, r2 _ (by omega) (by omega)]
            exact (h1 x x0 (by omega) hx).1
          · rw [o3 _ (by omega)]
            exact (h1 x x0 (by omega) hx).2 y y0 y1
  · rintro i m1 hi ⟨i0, i1, f1, g1, h1⟩
    obtain rfl : i = V 0 3 := by omega
    have e21 : m1 11 2 = 27 + 12 * k := g1.2.1.1.1
    have e11 : m1 (27 + 12 * k) 11 = V 0 3 := g1.2.1.2.1.2.1.2.2.2.1
    refine sX3_measure_22 hp tx ?_
    rw [e21, e11]
    refine ⟨fun _ => hQ m1 f1 g1 (fun x x0 x1 hx => h1 x x0 ((so.2.2.2 x x0 (by omega)).mp hx).1 hx), fun z => absurd (Int.le_refl _) z⟩
/-- the sums of all sets below n -/
def cSm (V : jM) (s p n : Int) (m : jM) : Prop := ∀ x, 0 < x → x < n → sub6 x (srv V s) → m (p + 2) x = bh V s x (-1) ∧ ∀ i, 0 ≤ i → i < 6 → tb x i = true → m (p + 9) (x * 6 + i) = bh V s (x - 2 ^ i.toNat) i
theorem sub6_dl {x i y : Int} (x0 : 0 ≤ x) (x1 : x < 64) (i0 : 0 ≤ i) (i1 : i < 6) (h : tb x i = true) (hs : sub6 x y) : sub6 (x - 2 ^ i.toNat) y := by
  intro j j0 j1 hj
  rw [(dl_in x0 x1 i0 i1 h).2.2.2.2 j j0 j1, Bool.and_eq_true] at hj
  exact hs j j0 j1 hj.1
theorem c_leastBehind {V m : jM} {Q : Int → jM → Prop} {s p x i : Int} (hp : jPl p) (ht : vKt V) (hl : cLg V s p m) (hm : cSm V s p (x + 1) m) (x0 : 0 ≤ x) (x1 : x < 64) (hs : sub6 x (srv V s)) (i0 : 0 ≤ i) (i1 : i < 6) (hi : tb (srv V s) i = true) (hQ : Q (bh V s x i) m) : ML iX3_leastBehind [(2, p), (0, x), (0, i)] m Q := by
  have hN := ht.1
  have so := srv_ok ht s
  refine sX3_leastBehind hp ⟨fun z => ?_, fun z => ⟨i0, i1, ?_⟩⟩
  · rw [bh_eq (by omega) x1] at hQ
    refine lup2 (n := 6) (I := fun j (m1 : jM) v => 0 ≤ j ∧ j ≤ 6 ∧ m1 = m ∧ v = mnF x (fun j => rL V i j + bh V s (x - 2 ^ j.toNat) j) j.toNat) (G := fun j m1 v => GL iX3_leastBehind m1 17 [(2, p), (0, x), (0, i), (0, v), (0, j)] [] Q) ?_ ?_ 0 m 268435456 ⟨by decide, by decide, rfl, rfl⟩
    · rintro j m1 v hj ⟨j0, -, rfl, hv⟩ K
      have nx : mnF x (fun j => rL V i j + bh V s (x - 2 ^ j.toNat) j) (j + 1).toNat = if tb x j = true then min (mnF x (fun j => rL V i j + bh V s (x - 2 ^ j.toNat) j) j.toNat) (rL V i j + bh V s (x - 2 ^ j.toNat) j) else mnF x (fun j => rL V i j + bh V s (x - 2 ^ j.toNat) j) j.toNat := by
        rw [show (j + 1).toNat = j.toNat + 1 by omega]
        simp only [mnF]
        rw [Int.toNat_of_nonneg j0]
      refine sX3_leastBehind_17 hp ?_
      rw [jshr_bit (by omega) j0 (by omega), jw_id (x := j + 1) (by omega) (by omega), jw_id (x := i * 6) (by omega) (by omega), jw_id (x := i * 6 + j) (by omega) (by omega), jw_id (x := x * 6) (by omega) (by omega), jw_id (x := x * 6 + j) (by omega) (by omega)]
      refine ⟨fun y => absurd y (by omega), fun _ => ⟨fun y => K m1 _ ⟨by omega, by omega, rfl, ?_⟩, fun y => ⟨by omega, by omega, by omega, by omega, ?_⟩⟩⟩
      · rw [nx, if_neg, hv]
        intro w
        rw [if_pos w] at y
        exact absurd y (by decide)
      · have hb : tb x j = true := by
          apply Classical.byContradiction
          intro w
          rw [if_neg w] at y
          exact y rfl
        have j3 := ((so.2.2.2 j j0 (by omega)).mp (hs j j0 hj hb)).1
        have d := dl_in x0 x1 j0 hj hb
        have b1 := rL_bd ht i j
        have b2 := bh_in ht s d.2.1 (by omega) j
        rw [(hl i i0 i1 hi).2 j j0 j3, (hm x (by omega) (by omega) hs).2 j j0 hj hb, jw_id (by omega) (by omega)]
        refine K m1 _ ⟨by omega, by omega, rfl, ?_⟩
        rw [nx, if_pos hb, hv]
    · rintro j m1 v hj ⟨j0, j1, rfl, rfl⟩
      obtain rfl : j = 6 := by omega
      exact sX3_leastBehind_17 hp ⟨fun _ => hQ, fun y => absurd hj y⟩
  · have : x = 0 := Classical.byContradiction z
    rw [this, bh_0] at hQ
    rw [(hl i i0 i1 hi).1]
    exact hQ
theorem c_findRoute {V m : jM} {Q : Int → jM → Prop} {s p x : Int} (hp : jPl p) (ht : vKt V) (hl : cLg V s p m) (hm : cSm V s p x m) (h2 : m (p + 2) x = 268435456) (x0 : 0 < x) (x1 : x < 64) (hs : sub6 x (srv V s)) (hQ : ∀ m', (∀ q, q ≠ p + 2 → q ≠ p + 9 → m' q = m q) → (∀ y, y ≠ x → m' (p + 2) y = m (p + 2) y) → cSm V s p (x + 1) m' → Q 0 m') : ML iX3_findRoute [(2, p), (0, x)] m Q := by
  have hN := ht.1
  have so := srv_ok ht s
  refine sX3_findRoute hp ?_
  refine lup (n := 6) (I := fun i m1 => 0 ≤ i ∧ i ≤ 6 ∧ (∀ q, q ≠ p + 2 → q ≠ p + 9 → m1 q = m q) ∧ (∀ y, y ≠ x → m1 (p + 2) y = m (p + 2) y) ∧ m1 (p + 2) x = mnF x (fun j => rL V (-1) j + bh V s (x - 2 ^ j.toNat) j) i.toNat ∧ (∀ y, y < x * 6 ∨ x * 6 + 6 ≤ y → m1 (p + 9) y = m (p + 9) y) ∧ ∀ j, 0 ≤ j → j < i → tb x j = true → m1 (p + 9) (x * 6 + j) = bh V s (x - 2 ^ j.toNat) j) (G := fun i m1 => GL iX3_findRoute m1 2 [(2, p), (0, x), (0, i), (9, 0)] [] Q) ?_ ?_ 0 m ⟨by decide, by decide, fun q _ _ => rfl, fun y _ => rfl, h2, fun y _ => rfl, fun j j0 j1 => by omega⟩
  · rintro i m1 hi ⟨i0, -, f1, o1, e1, o2, h1⟩ K
    have nx : mnF x (fun j => rL V (-1) j + bh V s (x - 2 ^ j.toNat) j) (i + 1).toNat = if tb x i = true then min (mnF x (fun j => rL V (-1) j + bh V s (x - 2 ^ j.toNat) j) i.toNat) (rL V (-1) i + bh V s (x - 2 ^ i.toNat) i) else mnF x (fun j => rL V (-1) j + bh V s (x - 2 ^ j.toNat) j) i.toNat := by
      rw [show (i + 1).toNat = i.toNat + 1 by omega]
      simp only [mnF]
      rw [Int.toNat_of_nonneg i0]
    refine sX3_findRoute_2 hp ?_
    rw [jshr_bit (by omega) i0 (by omega), jw_id (x := i + 1) (by omega) (by omega), jw_id (x := x * 6) (by omega) (by omega), jw_id (x := x * 6 + i) (by omega) (by omega)]
    refine ⟨fun y => absurd y (by omega), fun _ => ⟨fun y => ?_, fun y => ?_⟩⟩
    · have hb : ¬ tb x i = true := by
        intro w
        rw [if_pos w] at y
        exact absurd y (by decide)
      refine K m1 ⟨by omega, by omega, f1, o1, by rw [nx, if_neg hb]; exact e1, o2, fun j j0 j1 hj => ?_⟩
      by_cases e : j = i
      · rw [e] at hj; exact absurd hj hb
      · exact h1 j j0 (by omega) hj
    · have hb : tb x i = true := by
        apply Classical.byContradiction
        intro w
        rw [if_neg w] at y
        exact y rfl
      have d := dl_in (by omega) x1 i0 hi hb
      rw [d.1]
      have hl1 : cLg V s p m1 := by
        unfold cLg at hl ⊢
        rw [f1 (p + 7) (by omega) (by omega), f1 (p + 8) (by omega) (by omega)]
        exact hl
      have hm1 : cSm V s p (x - 2 ^ i.toNat + 1) m1 := by
        intro y y0 y1 ys
        have q := hm y y0 (by omega) ys
        refine ⟨by rw [o1 y (by omega)]; exact q.1, fun j j0 j1 hj => ?_⟩
        rw [o2 _ (by omega)]
        exact q.2 j j0 j1 hj
      refine c_leastBehind hp ht hl1 hm1 d.2.1 (by omega) (sub6_dl (by omega) x1 i0 hi hb hs) i0 hi (hs i i0 hi hb) ⟨by omega, by omega, by omega, x1, by omega, x1, ?_⟩
      refine K _ ⟨by omega, by omega, fun q q2 q9 => by rw [jup_ne q2, jup_ne q9]; exact f1 q q2 q9, fun z hz => by rw [jup_self, if_neg hz, jup_ne (by omega)]; exact o1 z hz, ?_, fun z hz => by rw [jup_ne (by omega), jup_self, if_neg (by omega)]; exact o2 z hz, fun j j0 j1 hj => ?_⟩
      · rw [jup_s, nx, if_pos hb, e1]
        unfold rL
        rw [if_pos rfl, Int.zero_add]
      · rw [jup_ne (by omega), jup_self]
        by_cases e : j = i
        · rw [if_pos (by omega), e]
        · rw [if_neg (by omega)]
          exact h1 j j0 (by omega) hj
  · rintro i m1 hi ⟨i0, i1, f1, o1, e1, o2, h1⟩
    obtain rfl : i = 6 := by omega
    refine sX3_findRoute_2 hp ⟨fun _ => hQ m1 f1 o1 (fun y y0 y1 ys => ?_), fun z => absurd hi z⟩
    by_cases e : y = x
    · rw [e]
      refine ⟨?_, fun j j0 j1 hj => h1 j j0 j1 hj⟩
      rw [e1, bh_eq x0 x1]
      rfl
    · have q := hm y y0 (by omega) ys
      refine ⟨by rw [o1 y e]; exact q.1, fun j j0 j1 hj => ?_⟩
      rw [o2 _ (by omega)]
      exact q.2 j j0 j1 hj
theorem and64 {a b : Int} (a0 : 0 ≤ a) (a1 : a < 64) (b0 : 0 ≤ b) (b1 : b < 64) : jand a b ≠ 0 ↔ ∃ i, 0 ≤ i ∧ i < 6 ∧ tb a i = true ∧ tb b i = true := by
  rw [and20 a0 (by omega) b0 (by omega)]
  constructor
  · rintro ⟨i, i0, i1, h1, h2⟩
    refine ⟨i, i0, ?_, h1, h2⟩
    apply Classical.byContradiction
    intro z
    rw [tb_lt (k := 6) a0 (by simpa using a1) (by decide) (by omega)] at h1
    exact absurd h1 (by decide)
  · rintro ⟨i, i0, i1, h⟩; exact ⟨i, i0, by omega, h⟩
theorem ptd_iff {V : jM} {s x : Int} : ptd V s x ↔ ∃ i q, 0 ≤ i ∧ i < 6 ∧ tb x i = true ∧ 0 ≤ q ∧ q < 6 ∧ tb x q = true ∧ pAs V s (V 0 6) i q := by
  constructor
  · rintro ⟨p, q, a, b, p0, p1, hp, q0, q1, hq, ra, rb, f, f0, f1, f2, f3, f4 | f4⟩
    · refine ⟨p, q, p0, p1, hp, q0, q1, hq, f, f0, f1, f2, f3, ?_, ?_⟩
      · rw [f4.1]; exact ra
      · rw [f4.2]; exact rb
    · refine ⟨q, p, q0, q1, hq, p0, p1, hp, f, f0, f1, f2, f3, ?_, ?_⟩
      · rw [f4.1]; exact rb
      · rw [f4.2]; exact ra
  · rintro ⟨i, q, i0, i1, hi, q0, q1, hq, f, f0, f1, f2, f3, ra, rb⟩
    exact ⟨i, q, V 11 f, V 12 f, i0, i1, hi, q0, q1, hq, ra, rb, f, f0, f1, f2, f3, Or.inl ⟨rfl, rfl⟩⟩
theorem c_canBeGood {V m : jM} {Q : Int → jM → Prop} {s p t x : Int} (hp : jPl p) (hf : vKf V) (ht : vKt V) (hc : vCt V t m) (hr : cRd V s p m) (ha : cAp V s p (V 0 6) m) (x0 : 0 < x) (x1 : x < 64) (hs : sub6 x (srv V s)) (hm : m (p + 2) x = bh V s x (-1)) (hQ : ∀ r, (gd V s x → r = 1) → (¬ gd V s x → r = 0) → Q r m) : ML iX3_canBeGood [(2, p), (0, x), (2, t + 10)] m Q := by
  have tk := hf.1
  have hN := ht.1
  have tx := hc.1
  have ru := hc.2.2.2.2.2.2
  refine sX3_canBeGood hp tx ?_
  refine lup2 (n := 6) (I := fun i (m1 : jM) l => 0 ≤ i ∧ i ≤ 6 ∧ m1 = m ∧ l = ldN V s x i.toNat ∧ (0 ≤ l ∧ l ≤ 40 * i) ∧ ∀ j, 0 ≤ j → j < i → tb x j = true → ∀ q, 0 ≤ q → q < 6 → tb x q = true → ¬ pAs V s (V 0 6) j q) (G := fun i m1 l => GL iX3_canBeGood m1 5 [(2, p), (0, x), (2, t + 10), (0, l), (0, i)] [] Q) ?_ ?_ 0 m 0 ⟨by decide, by decide, rfl, rfl, by decide, fun j j0 j1 => by omega⟩
  · rintro i m1 l hi ⟨i0, -, rfl, hl, hl2, hno⟩ K
    have rn := rdN_in tk.2.2.2.2.1 tk.2.2.2.2.2 s i
    have q1 := (hr.1 i i0 hi).2
    have a1 := ha i i0 hi
    have ln : ldN V s x (i + 1).toNat = ldN V s x i.toNat + if tb x i = true then stN V s i else 0 := by
      unfold ldN
      rw [show (i + 1).toNat = i.toNat + 1 by omega]
      simp only [sumN]
      rw [Int.toNat_of_nonneg i0]
    refine sX3_canBeGood_5 hp tx ?_
    rw [jshr_bit (by omega) i0 (by omega), jw_id (x := i + 1) (by omega) (by omega), q1, jw_id (x := l + stN V s i) (by omega) (by omega)]
    refine ⟨fun z => absurd z (by omega), fun _ => ⟨fun z => ?_, fun z => ⟨i0, hi, i0, hi, fun z2 => ?_, fun z2 => ?_⟩⟩⟩
    · have hb : ¬ tb x i = true := by
        intro w
        rw [if_pos w] at z
        exact absurd z (by decide)
      refine K m1 _ ⟨by omega, by omega, rfl, by rw [ln, if_neg hb, Int.add_zero]; exact hl, by omega, fun j j0 j1 hj => ?_⟩
      by_cases e : j = i
      · rw [e] at hj; exact absurd hj hb
      · exact hno j j0 (by omega) hj
    · have hb : tb x i = true := by
        apply Classical.byContradiction
        intro w
        rw [if_neg w] at z
        exact z rfl
      refine K m1 _ ⟨by omega, by omega, rfl, by rw [ln, if_pos hb, hl], by omega, fun j j0 j1 hj q q0 q1 hq hpa => ?_⟩
      by_cases e : j = i
      · rw [e] at hpa
        exact (and64 a1.1.1 a1.1.2 (by omega) x1).mpr ⟨q, q0, q1, (a1.2 q q0 q1).mpr hpa, hq⟩ z2
      · exact hno j j0 (by omega) hj q q0 q1 hq hpa
    · refine hQ 0 (fun g => absurd ?_ g.2.2.2) (fun _ => rfl)
      obtain ⟨q, q0, q1, h1, h2⟩ := (and64 a1.1.1 a1.1.2 (show 0 ≤ x by omega) x1).mp z2
      have hb : tb x i = true := by
        apply Classical.byContradiction
        intro w
        rw [if_neg w] at z
        exact z rfl
      exact ptd_iff.mpr ⟨i, q, i0, hi, hb, q0, q1, h2, (a1.2 q q0 q1).mp h1⟩
  · rintro i m1 l hi ⟨i0, i1, rfl, hl, hl2, hno⟩
    obtain rfl : i = 6 := by omega
    have hl : l = ldN V s x 6 := hl
    have hnp : ¬ ptd V s x := by
      rw [ptd_iff]
      rintro ⟨j, q, j0, j1, hj, q0, q1, hq, h⟩
      exact hno j j0 j1 hj q q0 q1 hq h
    refine sX3_canBeGood_5 hp tx ⟨fun _ => ⟨by omega, x1, ?_⟩, fun z => absurd hi z⟩
    rw [hm, ru 0 (by decide) (by decide), ru 1 (by decide) (by decide)]
    exact ⟨fun z => hQ 0 (fun g => by have := g.2.1; omega) (fun _ => rfl), fun z => ⟨fun z2 => hQ 0 (fun g => by have := g.2.2.1; omega) (fun _ => rfl), fun z2 => hQ 1 (fun _ => rfl) (fun g => absurd ⟨hs, by omega, by omega, hnp⟩ g)⟩⟩
theorem c_payOf {V m : jM} {Q : Int → jM → Prop} {s p t x : Int} (hp : jPl p) (ht : vKt V) (hc : vCt V t m) (hr : cRd V s p m) (x0 : 0 < x) (x1 : x < 64) (hm : m (p + 2) x = bh V s x (-1)) (g : gd V s x) (hQ : Q (py V s x) m) : ML iX3_payOf [(2, p), (0, x), (2, t + 10)] m Q := by
  have hN := ht.1
  have tx := hc.1
  have ru := hc.2.2.2.2.2.2
  have pb := py_in ht (by omega) x1 g
  have w5 := ht.2.2.2.2 5 (by decide) (by decide)
  have w4 := ht.2.2.2.2 4 (by decide) (by decide)
  have hn : jand x (m p 9) ≠ 0 ↔ nrs V s x := by
    rw [and64 (by omega) x1 hr.2.2.1.1 hr.2.2.1.2]
    constructor
    · rintro ⟨i, i0, i1, h1, h2⟩
      obtain ⟨c, c1, c2, c3⟩ := (hr.2.2.2 i i0 i1).mp h2
      exact ⟨i, c, i0, i1, h1, c2, c3⟩
    · rintro ⟨i, c, i0, i1, h1, c2, c3⟩
      exact ⟨i, i0, i1, h1, (hr.2.2.2 i i0 i1).mpr ⟨c, c2.2.1, c2, c3⟩⟩
  refine sX3_payOf hp tx ?_
  rw [hm, ru 5 (by decide) (by decide), ru 6 (by decide) (by decide), ru 4 (by decide) (by decide), jw_id (x := V 9 6 * bh V s x (-1)) (by omega) (by omega), jw_id (x := V 9 5 + V 9 6 * bh V s x (-1)) (by omega) (by omega), jw_id (x := V 9 5 + V 9 6 * bh V s x (-1) + 0) (by omega) (by omega), jw_id (x := V 9 5 + V 9 6 * bh V s x (-1) + V 9 4) (by omega) (by omega)]
  unfold py at hQ
  refine ⟨fun z => ⟨by omega, x1, ?_⟩, fun z => ⟨by omega, x1, ?_⟩⟩
  · rw [if_neg (fun y => hn.mpr y z)] at hQ; exact hQ
  · rw [if_pos (hn.mp z)] at hQ; exact hQ
