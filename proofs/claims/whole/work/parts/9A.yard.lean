/-! conds: the class's yard as a machine -/
/-- how strongly a kind binds -/
def stg (k : Int) : Int := if k = 14 then 1 else if k = 15 then 2 else if k = 16 then 3 else if k = 24 then 1 else if k = 25 ∨ k = 26 then 5 else if k = 27 then 6 else if k = 32 then 0 else 4
theorem stg_in (k : Int) : 0 ≤ stg k ∧ stg k ≤ 6 := by
  unfold stg
  (repeat' split) <;> decide
theorem c_strengthOf {m : jM} {Q : Int → jM → Prop} {a : Int} (hQ : Q (stg a) m) : ML iX4_strengthOf [(0, a)] m Q := by
  have key : ∀ k, stg a = k → Q k m := fun k h => h ▸ hQ
  refine sX4_strengthOf ⟨fun e => ?_, fun e => ?_, fun e => ?_, fun e => ?_, fun e => ?_, fun e => ?_, fun e => ?_, fun e => ?_, fun e => ?_, fun e => ?_, fun e => ?_, fun e => ?_, fun e => ?_, fun e => ?_, fun e => ?_, fun e => ?_, fun e => ?_, fun e => ?_, fun e => ?_, fun e => ?_⟩
  all_goals first
    | (apply key; subst e; rfl)
    | (apply key; unfold stg; rw [if_neg (by omega), if_neg (by omega), if_neg (by omega), if_neg (by omega), if_neg (by omega), if_neg (by omega), if_neg (by omega)])
/-- an item behind the code -/
def cdF (c : Int) (V : jM) : jM := jup (jup V 32 (V 0 16) c) 0 16 (V 0 16 + 1)
/-- what waits and binds so strongly goes into the code -/
def stl (s : Int) : List Int → jM → List Int × jM
  | [], V => ([], V)
  | k :: W, V => if s ≤ stg k then stl s W (cdF (-k - 1) V) else (k :: W, V)
/-- the class's code and what waits -/
def cCd (V : jM) (t : Int) (m : jM) : Prop := m t 16 = V 0 16 ∧ (0 ≤ V 0 16 ∧ V 0 16 ≤ 400) ∧ (∀ i, 0 ≤ i → i < V 0 16 → m (t + 9) i = V 32 i) ∧ ∀ r, 0 ≤ r → r < V 0 4 → m (t + 8) r = V 33 r
def cWt (W : List Int) (m : jM) : Prop := m 1 10 = (W.length : Int) ∧ stkR (m 10) W ∧ ∀ k ∈ W, 0 ≤ k ∧ k ≤ 35
theorem c_addCode {V m : jM} {Q : Int → jM → Prop} {t c : Int} (ht : jTx t) (hC : cCd V t m) (hl : V 0 16 < 400) (hQ : ∀ m', frx [(t + 9)] [(t, 16)] m m' → cCd (cdF c V) t m' → Q 0 m') : ML iX8_addCode [(2, t), (0, c)] m Q := by
  have tr := jTx_rng ht
  obtain ⟨c1, c2, c3, c4⟩ := hC
  refine sX8_addCode ht ?_
  rw [c1, jw_id (x := V 0 16 + 1) (by omega) (by omega)]
  refine ⟨fun z => absurd z (by omega), fun _ => ⟨c2.1, hl, hQ _ (frx_upF (frx_upA frx_rf (by simp)) (by simp)) ?_⟩⟩
  have e : cdF c V 0 16 = V 0 16 + 1 := rfl
  refine ⟨by rw [jup_s]; rfl, by omega, fun i i0 i1 => ?_, fun r r0 r1 => ?_⟩
  · rw [e] at i1
    rw [jup_ne (by omega), jup_self]
    by_cases ei : i = V 0 16
    · rw [if_pos ei, ei]; simp [cdF, jup]
    · rw [if_neg ei, c3 i i0 (by omega)]; simp [cdF, jup, ei]
  · have h := c4 r r0 r1
    rw [jup_ne (by omega), jup_ne (by omega), h]
    simp [cdF, jup]
theorem c_settle {Q : Int → jM → Prop} {t s : Int} (ht : jTx t) : ∀ {W : List Int} {V m : jM}, cCd V t m → cWt W m → V 0 16 + (W.length : Int) ≤ 400 → (∀ m', frx [(t + 9)] [(t, 16), (1, 10)] m m' → cCd (stl s W V).2 t m' → cWt (stl s W V).1 m' → Q 0 m') → GL iX4_settle m 0 [(2, 1), (2, t), (0, s)] [] Q := by
  have tr := jTx_rng ht
  intro W
  induction W with
  | nil =>
    intro V m hC hW _ hQ
    refine sX4_settle_0 ht ⟨fun _ => hQ m frx_rf hC hW, fun z => absurd z ?_⟩
    rw [hW.1]
    simp
  | cons k W ih =>
    intro V m hC hW hl hQ
    have e1 : m 1 10 = (W.length : Int) + 1 := by rw [hW.1]; simp
    have hl' : V 0 16 + (W.length : Int) + 1 ≤ 400 := by simp only [List.length_cons] at hl; omega
    have top : m 10 (W.length : Int) = k := hW.2.1.1
    have kb := hW.2.2 k (by simp)
    have c0 := hC.2.1
    refine sX4_settle_0 ht ?_
    rw [e1, jw_id (x := (W.length : Int) + 1 - 1) (by omega) (by omega), show (W.length : Int) + 1 - 1 = (W.length : Int) by omega, top]
    refine ⟨fun z => absurd z (by omega), fun _ => ⟨by omega, by omega, c_strengthOf ?_⟩⟩
    rw [e1, jw_id (x := (W.length : Int) + 1 - 1) (by omega) (by omega), show (W.length : Int) + 1 - 1 = (W.length : Int) by omega, top, jnot (by omega)]
    simp only [stl] at hQ
    refine ⟨fun z => ?_, fun z => ⟨by omega, by omega, ?_⟩⟩
    · rw [if_neg (by omega)] at hQ
      exact hQ m frx_rf hC hW
    · rw [if_pos (by omega)] at hQ
      have C1 : cCd V t (jup m 1 10 (W.length : Int)) := by
        unfold cCd at hC ⊢
        rw [jup_ne (show t ≠ 1 by omega), jup_ne (show t + 9 ≠ 1 by omega), jup_ne (show t + 8 ≠ 1 by omega)]
        exact hC
      refine c_addCode ht C1 (by omega) (fun m2 f2 C2 => ?_)
      have e2 : cdF (-k - 1) V 0 16 = V 0 16 + 1 := rfl
      refine ih C2 ⟨?_, ?_, fun x hx => hW.2.2 x (by simp [hx])⟩ (by omega) (fun m3 f3 C3 W3 => hQ m3 ?_ C3 W3)
      · rw [f2 1 10 (by simp; omega) (by simp <;> omega), jup_s]
      · rw [frx_row f2 10 (by simp; omega) (by simp <;> omega), jup_ne (by decide)]
        exact hW.2.1.2
      · refine frx_tr (frx_tr (m1 := jup m 1 10 (W.length : Int)) (frx_upF frx_rf (by simp)) (frx_mono f2 (by simp) (by simp))) f3
theorem c_await {m : jM} {Q : Int → jM → Prop} {W : List Int} {k : Int} (hW : cWt W m) (hl : (W.length : Int) < 400) (k0 : 0 ≤ k) (k1 : k ≤ 35) (hQ : ∀ m', frx [10] [(1, 10)] m m' → cWt (k :: W) m' → Q 0 m') : ML iX4_await [(2, 1), (0, k)] m Q := by
  obtain ⟨w1, w2, w3⟩ := hW
  refine sX4_await ?_
  rw [w1, jw_id (x := (W.length : Int) + 1) (by omega) (by omega)]
  refine ⟨fun z => absurd z (by omega), fun _ => ⟨by omega, hl, hQ _ (frx_upF (frx_upA frx_rf (by decide)) (by decide)) ⟨?_, ⟨?_, ?_⟩, ?_⟩⟩⟩
  · rw [jup_s]; simp
  · rw [jup_ne (by decide), jup_s]
  · rw [jup_ne (by decide)]
    exact stkR_cg w2 (fun i i0 i1 => by rw [jup_self, if_neg (by omega)])
  · intro x hx
    simp only [List.mem_cons] at hx
    rcases hx with rfl | hx
    · exact ⟨k0, k1⟩
    · exact w3 x hx
