/-! a view turned -/
theorem tb_clr {a k i : Int} (ha : -2147483648 ≤ a ∧ a ≤ 2147483647) (k0 : 0 ≤ k) (k1 : k < 31) (h0 : 0 ≤ i) (hi : i < 32) : tb (jand a (jxor (jshl 1 k) (-1))) i = (tb a i && !decide (i = k)) := by
  rw [tb_and ha (jxor_in _ _) h0 hi, tb_not (jshl_in _ _), tb_shl1 k0 k1 h0]
theorem tb_p2m1 {k : Nat} {i : Int} (i0 : 0 ≤ i) : tb (2 ^ k - 1) i = decide (i < k) := by
  have e : ∀ y : Int, y - 1 = -(y * -1) - 1 := by intro y; omega
  rw [e, tb_neg, tb_mulp i0]
  by_cases h : i < k
  · rw [if_pos h, decide_eq_true h]; rfl
  · rw [if_neg h, decide_eq_false h, tb_m1]; rfl
theorem vShutN_s {V : jM} {i w : Int} (i0 : 0 ≤ i) : vShutN V (i + 1) w ↔ vShutN V i w ∨ (V 10 i = 3 ∧ V 12 i ≤ V 0 5 ∧ V 0 5 ≤ V 13 i ∧ vLv V i ∧ V 11 i = w) := by
  unfold vShutN
  constructor
  · rintro ⟨f, f0, f1, h⟩
    by_cases e : f = i
    · subst e
      exact Or.inr h
    · exact Or.inl ⟨f, f0, by omega, h⟩
  · rintro (⟨f, f0, f1, h⟩ | h)
    · exact ⟨f, f0, by omega, h⟩
    · exact ⟨i, i0, by omega, h⟩
theorem c_usable {V m : jM} {Q : Int → jM → Prop} {t : Int} (hf : vKf V) (ht : vKt V) (hc : vCt V t m) (hcf : vCf V m) (hv : m 11 2 = t ∧ m 11 3 = V 0 5 ∧ m 11 4 = V 0 6) (hQ : ∀ m', fr [23] m m' → vwU V m' → Q 0 m') : ML iX9_findUsableWays [(2, 11)] m Q := by
  have tk := hf.1
  have hN := ht.1
  obtain ⟨v1, v2, v3⟩ := hv
  have hb := hc.2.2.2.1
  refine sX9_findUsableWays ?_
  rw [v1, hc.2.1.2.1, p2m1 (by omega) (by omega)]
  have p24 : (2 : Int) ^ (V 0 1).toNat ≤ 2 ^ 24 := p2le (by omega)
  have p0 : 0 < (2 : Int) ^ (V 0 1).toNat := Int.pow_pos (by decide)
  have key := lup (n := V 0 6) (I := fun i (x : Int) => 0 ≤ i ∧ i ≤ V 0 6 ∧ (0 ≤ x ∧ x < 16777216) ∧ ∀ w, 0 ≤ w → w < 24 → (tb x w = true ↔ w < V 0 1 ∧ ¬ vShutN V i w)) (G := fun i x => GL iX9_findUsableWays m 14 [(2, 11), (0, x), (0, i)] [] Q) ?_ ?_ 0 (2 ^ (V 0 1).toNat - 1) ⟨by decide, by omega, by omega, ?_⟩
  · exact key
  · rintro i x hi ⟨i0, i1, x0, hx⟩ K
    have q := hcf.2.1 i i0 hi
    have fv := (hf.2.1 i i0 hi).1
    refine sX9_findUsableWays_14 ?_
    rw [v3, jw_id (x := i + 1) (by omega) (by omega)]
    refine ⟨fun z => absurd z (by omega), fun _ => c_isKnownF hcf i0 hi (fun r r1 r2 => ?_)⟩
    rw [v2, q.2.1, q.2.2.1, q.2.2.2.1]
    have skip : ¬ (V 10 i = 3 ∧ V 12 i ≤ V 0 5 ∧ V 0 5 ≤ V 13 i ∧ vLv V i) → GL iX9_findUsableWays m 14 [(2, 11), (0, x), (0, i + 1)] [] Q := by
      intro hn
      refine K x ⟨by omega, by omega, x0, fun w w0 w1 => ?_⟩
      rw [hx w w0 w1, vShutN_s i0]
      constructor
      · rintro ⟨a, b⟩
        exact ⟨a, fun y => y.elim b (fun y => hn ⟨y.1, y.2.1, y.2.2.1, y.2.2.2.1⟩)⟩
      · rintro ⟨a, b⟩
        exact ⟨a, fun y => b (Or.inl y)⟩
    refine ⟨fun z => skip (fun y => ?_), fun z => ⟨i0, by omega, fun z2 => skip (by omega), fun z2 => ⟨i0, by omega, fun z3 => skip (by omega), fun z3 => ⟨i0, by omega, ?_⟩⟩⟩⟩
    · rw [r1 ⟨y.1, y.2.2.2⟩] at z
      exact absurd z (by decide)
    · have hl : V 10 i = 3 ∧ vLv V i := Classical.byContradiction (fun y => z (r2 y))
      have w24 : 0 ≤ V 11 i ∧ V 11 i < 24 := by unfold fcVal at fv; omega
      refine K _ ⟨by omega, by omega, ⟨jand_nn (by omega) (jxor_in _ _), jand_lt (k := 24) (by omega) (jxor_in _ _) (by decide) (by show x < 16777216; omega)⟩, fun w w0 w1 => ?_⟩
      rw [tb_clr (by omega) w24.1 (by omega) w0 (by omega), Bool.and_eq_true, hx w w0 w1, vShutN_s i0]
      constructor
      · rintro ⟨⟨a, b⟩, c⟩
        refine ⟨a, fun y => y.elim b (fun y => ?_)⟩
        rw [y.2.2.2.2, decide_eq_true rfl] at c
        exact absurd c (by decide)
      · rintro ⟨a, b⟩
        refine ⟨⟨a, fun y => b (Or.inl y)⟩, ?_⟩
        rw [decide_eq_false]
        · rfl
        · intro y
          exact b (Or.inr ⟨hl.1, by omega, by omega, hl.2, y.symm⟩)
  · rintro i x hi ⟨i0, i1, x0, hx⟩
    obtain rfl : i = V 0 6 := by omega
    refine sX9_findUsableWays_14 ?_
    rw [v3]
    refine ⟨fun _ => ?_, fun z => absurd (Int.le_refl _) z⟩
    have a0 := jand_nn (a := x) (b := jxor (m t 7) (-1)) (by omega) (jxor_in _ _)
    have a1 := jand_lt (a := x) (b := jxor (m t 7) (-1)) (k := 24) (by omega) (jxor_in _ _) (by decide) (by show x < 16777216; omega)
    have a1' : jand x (jxor (m t 7) (-1)) < 16777216 := a1
    rw [v1]
    refine hQ _ (fr_up (fr_up (fr_up fr_rf (by decide)) (by decide)) (by decide)) (fun what w0 w1 => ?_)
    have g : what = 0 ∨ what = 1 ∨ what = 2 := by omega
    have plain : what ≠ 1 → (0 ≤ x ∧ x < 16777216 ∧ ∀ w, 0 ≤ w → w < 24 → (tb x w = true ↔ w < V 0 1 ∧ vOpen V what w)) := by
      intro hne
      refine ⟨x0.1, x0.2, fun w h0 h1 => ?_⟩
      rw [hx w h0 h1]
      unfold vOpen vShut
      exact ⟨fun y => ⟨y.1, y.2, fun e => absurd e hne⟩, fun y => ⟨y.1, y.2.1⟩⟩
    rcases g with rfl | rfl | rfl
    · rw [jup_self, if_neg (by decide), jup_self, if_neg (by decide), jup_s]
      exact plain (by decide)
    · rw [jup_self, if_neg (by decide), jup_s]
      refine ⟨a0, a1', fun w h0 h1 => ?_⟩
      rw [tb_and (by omega) (jxor_in _ _) h0 (by omega), tb_not (by omega), Bool.and_eq_true, hx w h0 h1]
      unfold vOpen vShut
      constructor
      · rintro ⟨⟨a, b⟩, c⟩
        refine ⟨a, b, fun _ => ?_⟩
        apply Classical.byContradiction
        intro y
        rw [((hc.2.2.1 w h0 a).2.2.2.2).mpr y] at c
        exact absurd c (by decide)
      · rintro ⟨a, b, c⟩
        refine ⟨⟨a, b⟩, ?_⟩
        cases h : tb (m t 7) w with
        | false => rfl
        | true => exact absurd (c rfl) ((hc.2.2.1 w h0 a).2.2.2.2.mp h)
    · rw [jup_s]
      exact plain (by decide)
  · intro w w0 w1
    rw [tb_p2m1 w0, decide_eq_true_iff]
    constructor
    · intro y
      exact ⟨by omega, fun ⟨f, f0, f1, _⟩ => by omega⟩
    · intro y
      omega
theorem c_judgeAll {V m : jM} {Q : Int → jM → Prop} {k : Int} (hf : vKf V) (hk : vKt V) (hg : vwG V k m) (hQ : ∀ m', frx (jgFr (27 + 12 * k)) [(11, 13)] m m' → vwG V k m' → (∀ c, 0 ≤ c → c < V 0 7 → tb (m' 11 13) c = true) → Q 0 m') : ML iX9_judgeAll [(2, 11)] m Q := by
  have tk := hf.1
  refine sX9_judgeAll ?_
  refine lup (n := V 0 7) (I := fun c (m1 : jM) => 0 ≤ c ∧ c ≤ V 0 7 ∧ frx (jgFr (27 + 12 * k)) [(11, 13)] m m1 ∧ vwG V k m1 ∧ ∀ c', 0 ≤ c' → c' < c → tb (m1 11 13) c' = true) (G := fun c m1 => GL iX9_judgeAll m1 2 [(2, 11), (0, c)] [] Q) ?_ ?_ 0 m ⟨by decide, by omega, frx_rf, hg, fun c' h0 h1 => by omega⟩
  · rintro c m1 hc ⟨c0, c1, f1, g1, b1⟩ K
    refine sX9_judgeAll_2 ?_
    rw [g1.2.1.1.2.2.2, jw_id (x := c + 1) (by omega) (by omega)]
    refine ⟨fun z => absurd z (by omega), fun _ => c_judge hf hk g1 c0 hc (fun m2 f2 g2 b2 o2 => K m2 ⟨by omega, by omega, frx_tr f1 f2, g2, fun c' h0 h1 => ?_⟩)⟩
    by_cases e : c' = c
    · rw [e]; exact b2
    · exact o2 c' h0 (by omega) (b1 c' h0 (by omega))
  · rintro c m1 hc ⟨c0, c1, f1, g1, b1⟩
    obtain rfl : c = V 0 7 := by omega
    refine sX9_judgeAll_2 ?_
    rw [g1.2.1.1.2.2.2]
    exact ⟨fun _ => hQ m1 f1 g1 b1, fun z => absurd (Int.le_refl _) z⟩
