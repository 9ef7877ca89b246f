/-! the class's choosing -/
/-- memory changed at x of a plan's tables alone -/
def ent (p x : Int) (m m' : jM) : Prop := ∀ q i, ¬ ((q = p + 10 ∨ q = p + 11 ∨ q = p + 12 ∨ q = p + 13) ∧ i = x) → m' q i = m q i
theorem ent_rf {p x : Int} {m : jM} : ent p x m m := fun _ _ _ => rfl
theorem ent_tr {p x : Int} {m m1 m2 : jM} (h : ent p x m m1) (h2 : ent p x m1 m2) : ent p x m m2 := fun q i hq => (h2 q i hq).trans (h q i hq)
theorem ent_up {p x q v : Int} {m m' : jM} (h : ent p x m m') (hq : q = p + 10 ∨ q = p + 11 ∨ q = p + 12 ∨ q = p + 13) : ent p x m (jup m' q x v) := fun q' i hi => by
  unfold jup
  rw [if_neg (by rintro ⟨rfl, rfl⟩; exact hi ⟨hq, rfl⟩)]
  exact h q' i hi
theorem ent_row {p x q : Int} {m m' : jM} (h : ent p x m m') (h0 : q ≠ p + 10) (h1 : q ≠ p + 11) (h2 : q ≠ p + 12) (h3 : q ≠ p + 13) : m' q = m q := funext (fun i => h q i (by rintro ⟨z | z | z | z, -⟩ <;> omega))
theorem ent_at {p x q i : Int} {m m' : jM} (h : ent p x m m') (hi : i ≠ x) : m' q i = m q i := h q i (fun z => hi z.2)
/-- an entry of the class's tables -/
def clE (p x : Int) (a : pT) (m : jM) : Prop := m (p + 10) x = (if a.1.1 < 0 then 2147483647 else a.1.1) ∧ (0 ≤ a.1.1 → m (p + 11) x = a.1.2.1 ∧ m (p + 12) x = a.1.2.2) ∧ m (p + 13) x = a.2
theorem clE_at {p x y : Int} {a : pT} {m m' : jM} (h : clE p y a m) (he : ent p x m m') (hy : y ≠ x) : clE p y a m' := by
  unfold clE at *
  rw [ent_at he hy, ent_at he hy, ent_at he hy, ent_at he hy]
  exact h
theorem c_weighRoute {m : jM} {Q : Int → jM → Prop} {p x y cost : Int} {T : Int → pT} {a : pT} (hp : jPl p) (x0 : 0 ≤ x) (x1 : x < 64) (r0 : 0 ≤ x - y) (r1 : x - y < x) (hxy : jxor x y = x - y) (hx : clE p x a m) (hr : clE p (x - y) (T (x - y)) m) (hb : (T (x - y)).1.1 ≤ 1306669320 ∧ (0 ≤ (T (x - y)).1.1 → 0 ≤ (T (x - y)).1.2.1 ∧ (T (x - y)).1.2.1 ≤ 6) ∧ 0 ≤ (T (x - y)).2 ∧ (T (x - y)).2 ≤ 99) (hc : 0 ≤ cost ∧ cost ≤ 217778220) (hQ : ∀ m', ent p x m m' → clE p x (pOp T (x - y) cost 1 y a.1, min a.2 (1 + (T (x - y)).2)) m' → Q 0 m') : ML iX3_weighRoute [(2, p), (0, x), (0, y), (0, cost)] m Q := by
  obtain ⟨h1, h2, h3⟩ := hx
  obtain ⟨g1, g2, g3⟩ := hr
  refine sX3_weighRoute hp ?_
  rw [hxy, g3, g1, h3, h1, jw_id (x := 1 + (T (x - y)).2) (by omega) (by omega)]
  have f1 : ent p x m (jup m (p + 13) x (min a.2 (1 + (T (x - y)).2))) := ent_up ent_rf (by omega)
  have o13 : ∀ q, q ≠ p + 13 → ∀ i, jup m (p + 13) x (min a.2 (1 + (T (x - y)).2)) q i = m q i := fun q hq i => by rw [jup_ne hq]
  -- nothing better
  have keep : pOp T (x - y) cost 1 y a.1 = a.1 → Q 0 (jup m (p + 13) x (min a.2 (1 + (T (x - y)).2))) := by
    intro e
    refine hQ _ f1 ⟨?_, fun z => ⟨?_, ?_⟩, jup_s⟩
    · rw [e, jup_ne (by omega)]; exact h1
    · rw [e] at z ⊢; rw [jup_ne (by omega)]; exact (h2 z).1
    · rw [e] at z ⊢; rw [jup_ne (by omega)]; exact (h2 z).2
  refine ⟨x0, x1, r0, by omega, x0, x1, r0, by omega, fun z => ⟨r0, by omega, r0, by omega, x0, x1, ?_⟩, fun z => keep ?_⟩
  · have t0 : ¬ (T (x - y)).1.1 < 0 := by
      intro w
      rw [if_pos w] at z
      exact z rfl
    have tc := hb.2.1 (by omega)
    rw [if_neg t0]
    have e11 := (g2 (by omega)).1
    rw [e11, jw_id (x := cost + (T (x - y)).1.1) (by omega) (by omega), jw_id (x := 1 + (T (x - y)).1.2.1) (by omega) (by omega)]
    have better : pOp T (x - y) cost 1 y a.1 = ((T (x - y)).1.1 + cost, (T (x - y)).1.2.1 + 1, y) → Q 0 (jup (jup (jup (jup m (p + 13) x (min a.2 (1 + (T (x - y)).2))) (p + 10) x (cost + (T (x - y)).1.1)) (p + 11) x (1 + (T (x - y)).1.2.1)) (p + 12) x y) := by
      intro e
      refine hQ _ (ent_up (ent_up (ent_up f1 (by omega)) (by omega)) (by omega)) ⟨?_, fun _ => ⟨?_, ?_⟩, ?_⟩
      · rw [e, jup_ne (by omega), jup_ne (by omega), jup_s, if_neg (show ¬ ((T (x - y)).1.1 + cost < 0) by omega), Int.add_comm]
      · rw [e, jup_ne (by omega), jup_s, Int.add_comm]
      · rw [e, jup_s]
      · rw [jup_ne (by omega), jup_ne (by omega), jup_ne (by omega), jup_s]
    have pe : pOp T (x - y) cost 1 y a.1 = if 0 ≤ a.1.1 ∧ (a.1.1 < (T (x - y)).1.1 + cost ∨ ((T (x - y)).1.1 + cost = a.1.1 ∧ a.1.2.1 ≤ (T (x - y)).1.2.1 + 1)) then a.1 else ((T (x - y)).1.1 + cost, (T (x - y)).1.2.1 + 1, y) := by
      unfold pOp
      rw [if_neg t0]
    refine ⟨fun w => ⟨x0, x1, x0, x1, x0, x1, better ?_⟩, fun w => ⟨x0, x1, fun w2 => keep ?_, fun w2 => ⟨x0, x1, fun w3 => keep ?_, fun w3 => ⟨x0, x1, x0, x1, x0, x1, better ?_⟩⟩⟩⟩
    · rw [pe, if_neg]
      rintro ⟨v0, v1⟩
      rw [if_neg (by omega)] at w
      omega
    · rw [pe, if_pos]
      split at w <;> split at w2 <;> omega
    · have a0 : ¬ a.1.1 < 0 := by
        intro v
        rw [if_pos v] at w2
        omega
      rw [if_neg a0] at w w2
      have := (h2 (by omega)).1
      rw [this] at w3
      rw [pe, if_pos ⟨by omega, Or.inr ⟨by omega, by omega⟩⟩]
    · have a0 : ¬ a.1.1 < 0 := by
        intro v
        rw [if_pos v] at w2
        omega
      rw [if_neg a0] at w w2
      have := (h2 (by omega)).1
      rw [this] at w3
      rw [pe, if_neg]
      omega
  · unfold pOp
    by_cases w : (T (x - y)).1.1 < 0
    · rw [if_pos w]
    · rw [if_neg w] at z
      exact absurd (by omega) z
theorem c_weighTaxi {m : jM} {Q : Int → jM → Prop} {p x y cost : Int} {T : Int → pT} {f : Int} (hp : jPl p) (x0 : 0 ≤ x) (x1 : x < 64) (r0 : 0 ≤ x - y) (r1 : x - y < x) (hxy : jxor x y = x - y) (hx : clE p x ((-1, 0, 0), f) m) (hr : clE p (x - y) (T (x - y)) m) (hb : (T (x - y)).1.1 ≤ 1306669320) (hc : 0 ≤ cost ∧ cost ≤ 217778220) (hQ : ∀ m', ent p x m m' → clE p x (pOp T (x - y) cost 0 0 (-1, 0, 0), f) m' → Q 0 m') : ML iX3_weighTaxi [(2, p), (0, x), (0, y), (0, cost)] m Q := by
  obtain ⟨g1, g2, g3⟩ := hr
  refine sX3_weighTaxi hp ?_
  rw [hxy, g1]
  refine ⟨r0, by omega, fun z => hQ m ent_rf ?_, fun z => ⟨r0, by omega, x0, x1, r0, by omega, x0, x1, x0, x1, ?_⟩⟩
  · have t0 : (T (x - y)).1.1 < 0 := by
      apply Classical.byContradiction
      intro w
      rw [if_neg w] at z
      omega
    unfold pOp
    rw [if_pos t0]
    exact hx
  · have t0 : ¬ (T (x - y)).1.1 < 0 := by
      intro w
      rw [if_pos w] at z
      exact z rfl
    rw [if_neg t0, (g2 (by omega)).1, jw_id (x := cost + (T (x - y)).1.1) (by omega) (by omega)]
    have pe : pOp T (x - y) cost 0 0 (-1, 0, 0) = ((T (x - y)).1.1 + cost, (T (x - y)).1.2.1, 0) := by
      unfold pOp
      rw [if_neg t0, if_neg (fun w => absurd w.1 (by decide)), Int.add_zero]
    refine hQ _ (ent_up (ent_up (ent_up ent_rf (by omega)) (by omega)) (by omega)) ?_
    rw [pe]
    refine ⟨?_, fun _ => ⟨?_, ?_⟩, ?_⟩
    · rw [jup_ne (by omega), jup_ne (by omega), jup_s, if_neg (show ¬ ((T (x - y)).1.1 + cost < 0) by omega), Int.add_comm]
    · rw [jup_ne (by omega), jup_s]
    · rw [jup_s]
    · rw [jup_ne (by omega), jup_ne (by omega), jup_ne (by omega)]; exact hx.2.2
theorem wsN_gap {V : jM} {s x : Int} {T : Int → pT} {a : Int × Int × Int} {n : Nat} : ∀ d : Nat, (∀ z : Int, n ≤ z → z < n + d → ¬ rtK V s x z) → wsN V s T x a (n + d) = wsN V s T x a n := by
  intro d
  induction d with
  | zero => intro _; rfl
  | succ d ih =>
    intro h
    rw [show n + (d + 1) = n + d + 1 by omega]
    simp only [wsN]
    rw [if_neg (h _ (by omega) (by omega))]
    exact ih (fun z z0 z1 => h z z0 (by omega))
/-- what the tables stand on -/
def cPl (V : jM) (s p : Int) (m : jM) : Prop := cRd V s p m ∧ cLg V s p m ∧ ∀ x, 0 < x → x < 64 → (m (p + 3) x = 0 ∨ m (p + 3) x = 1) ∧ (m (p + 3) x = 1 ↔ gd V s x) ∧ (¬ sub6 x (srv V s) → m (p + 2) x = 268435456) ∧ (sub6 x (srv V s) → m (p + 2) x = bh V s x (-1) ∧ ∀ i, 0 ≤ i → i < 6 → tb x i = true → m (p + 9) (x * 6 + i) = bh V s (x - 2 ^ i.toNat) i)
def clT (V : jM) (s p n : Int) (m : jM) : Prop := ∀ x, 0 ≤ x → x < n → sub6 x (srv V s) → clE p x (tA V s x) m
theorem cPl_ent {V : jM} {s p x : Int} {m m' : jM} (h : cPl V s p m) (he : ent p x m m') : cPl V s p m' := by
  obtain ⟨⟨a1, a2, a3, a4⟩, b, c⟩ := h
  have r : ∀ j, j < 10 → m' (p + j) = m (p + j) := fun j hj => ent_row he (by omega) (by omega) (by omega) (by omega)
  have r0 := r 0 (by decide)
  rw [Int.add_zero] at r0
  refine ⟨⟨?_, ?_, ?_, ?_⟩, ?_, ?_⟩
  · rw [r 5 (by decide), r 1 (by decide)]; exact a1
  · rw [r0]; exact a2
  · rw [r0]; exact a3
  · rw [r0]; exact a4
  · unfold cLg at b ⊢; rw [r 7 (by decide), r 8 (by decide)]; exact b
  · rw [r 3 (by decide), r 2 (by decide), r 9 (by decide)]; exact c
theorem c_choose {V m : jM} {Q : Int → jM → Prop} {s p t x : Int} (hp : jPl p) (hf : vKf V) (ht : vKt V) (hc : vCt V t m) (hP : cPl V s p m) (hT : clT V s p x m) (x0 : 0 < x) (x1 : x < 64) (hs : sub6 x (srv V s)) (hQ : ∀ m', ent p x m m' → clE p x (tA V s x) m' → Q 0 m') : ML iX3_choose [(2, p), (0, x), (2, t + 10)] m Q := by
  have tk := hf.1
  have hN := ht.1
  have tx := hc.1
  have tr := jTx_rng tx
  have pr : 64 ≤ p ∧ p ≤ 92 := by unfold jPl at hp; omega
  have l := lw_in x0 x1
  have d := dl_in (by omega) x1 l.1.1 l.1.2.1 l.1.2.2
  have hsl := hs _ l.1.1 l.1.2.1 l.1.2.2
  have so := srv_ok ht s
  have sv := so.2.2.2 _ l.1.1 (by omega) |>.mp hsl
  refine sX3_choose hp tx ⟨by omega, x1, by omega, x1, by omega, x1, c_bitCount ?_⟩
  rw [l.2.1]
  generalize hm1 : jup (jup (jup m (p + 10) x 2147483647) (p + 11) x 99) (p + 13) x 99 = m1
  have f1 : ent p x m m1 := by rw [← hm1]; exact ent_up (ent_up (ent_up ent_rf (by omega)) (by omega)) (by omega)
  have e1 : clE p x ((-1, 0, 0), 99) m1 := by
    refine ⟨?_, fun z => absurd z (by decide), ?_⟩
    · rw [← hm1, jup_ne (by omega), jup_ne (by omega), jup_s]; rfl
    · rw [← hm1, jup_s]
  have P1 := cPl_ent hP f1
  -- the loop over the sets with the least stop
  have loop : ∀ m2, ent p x m m2 → clE p x (txA V s (tA V s) x, 99) m2 → GL iX3_choose m2 85 [(2, p), (0, x), (2, t + 10), (0, jand x (jw (-x))), (9, 0), (0, jxor x (jand x (jw (-x)))), (0, 0), (0, 0)] [] Q := by
    intro m2 f2 e2
    rw [l.2.2.1, show jxor x (2 ^ (low x).toNat) = x - 2 ^ (low x).toNat by have := d.1; rw [jshl1 _ l.1.1 (by omega)] at this; exact this]
    have key : ∀ (n : Nat) (mo i : Int) (m3 : jM), x - 2 ^ (low x).toNat - mo < n → 0 ≤ mo → mo ≤ x - 2 ^ (low x).toNat → jand mo (jxor (x - 2 ^ (low x).toNat) (-1)) = 0 → 0 ≤ i → i ≤ mo → ent p x m m3 → clE p x (wsN V s (tA V s) x (txA V s (tA V s) x) (2 ^ (low x).toNat + mo).toNat) m3 → GL iX3_choose m3 85 [(2, p), (0, x), (2, t + 10), (0, 2 ^ (low x).toNat), (9, 0), (0, x - 2 ^ (low x).toNat), (0, mo), (0, i)] [] Q := by
      intro n
      induction n with
      | zero => intro mo i m3 h1 h2 h3; omega
      | succ n ih =>
        intro mo i m3 hn mo0 mo1 hmo i0 i1 f3 e3
        have sx := sx64 ⟨x.toNat, by omega⟩ ⟨mo.toNat, by omega⟩
        simp only [Int.toNat_of_nonneg (show 0 ≤ x by omega), Int.toNat_of_nonneg mo0] at sx
        have sx := sx (by omega)
        unfold sxOk at sx
        simp only [l.2.2.1, show jxor x (2 ^ (low x).toNat) = x - 2 ^ (low x).toNat by have := d.1; rw [jshl1 _ l.1.1 (by omega)] at this; exact this] at sx
        rw [if_pos hmo] at sx
        simp only [Bool.and_eq_true, beq_iff_eq, decide_eq_true_eq] at sx
        obtain ⟨⟨⟨sx1, sx2⟩, sx3⟩, sx4⟩ := sx
        have p2 : (0 : Int) < 2 ^ (low x).toNat := Int.pow_pos (by decide)
        generalize hb : (2 : Int) ^ (low x).toNat = b at *
        have P3 := cPl_ent hP f3
        have gdx := P3.2.2 (b + mo) (by omega) (by omega)
        have sub1 : sub6 (b + mo) x := (sub_iff (by omega) (by omega) (by omega) x1).mp sx3
        have tbl : tb (b + mo) (low x) = true := by
          have := tb_or (a := b) (b := mo) (i := low x) (by omega) (by omega) l.1.1 (by omega)
          rw [sx1, ← hb, tb_pow l.1.1 l.1.1, decide_eq_true rfl, Bool.true_or] at this
          rw [← hb]; exact this
        have subS : sub6 (b + mo) (srv V s) := fun j j0 j1 hj => hs j j0 j1 (sub1 j j0 j1 hj)
        -- on to the next set, or the end
        have next : ∀ m4, ent p x m m4 → clE p x (wsN V s (tA V s) x (txA V s (tA V s) x) ((b + mo).toNat + 1)) m4 → ((mo ≠ x - b → GL iX3_choose m4 85 [(2, p), (0, x), (2, t + 10), (0, b), (9, 0), (0, x - b), (0, jand (jw (mo - (x - b))) (x - b)), (0, i + 1)] [] Q) ∧ (¬ (mo ≠ x - b) → Q 0 m4)) := by
          intro m4 f4 e4
          refine ⟨fun z => ?_, fun z => hQ m4 f4 ?_⟩
          · rw [if_neg z] at sx4
            simp only [Bool.and_eq_true, decide_eq_true_eq, beq_iff_eq, List.all_eq_true, List.mem_range, Bool.not_eq_true'] at sx4
            obtain ⟨⟨n1, n2⟩, n3⟩ := sx4
            have nl : jand (jw (mo - (x - b))) (x - b) ≤ x - b := by
              have hc := jand_in (jw (mo - (x - b))) (x - b)
              have nn := jand_nn2 (a := jw (mo - (x - b))) (b := x - b) ⟨by omega, by omega⟩ (jw_in _)
              have nlt : jand (jw (mo - (x - b))) (x - b) < 64 := by
                have h6 := jand_lt2 (k := 6) (a := jw (mo - (x - b))) (b := x - b) ⟨by omega, by omega⟩ (jw_in _) (by decide) (show x - b < 2 ^ 6 from (by show x - b < 64; omega))
                exact h6
              have s1 := (sub_iff nn nlt (show 0 ≤ x - b by omega) (by omega)).mp n2
              have q := sb_in (x := x - b) (y := jand (jw (mo - (x - b))) (x - b)) (by omega) (by omega) nn nlt s1
              omega
            generalize hnx : jand (jw (mo - (x - b))) (x - b) = nx at *
            refine ih nx (i + 1) m4 (by omega) (by omega) nl n2 (by omega) (by omega) f4 ?_
            have hg := wsN_gap (V := V) (s := s) (x := x) (T := tA V s) (a := txA V s (tA V s) x) (n := (b + mo).toNat + 1) ((b + nx).toNat - ((b + mo).toNat + 1)) (fun w w0 w1 hr => ?_)
            · rw [show (b + mo).toNat + 1 + ((b + nx).toNat - ((b + mo).toNat + 1)) = (b + nx).toNat by omega] at hg
              rw [hg]
              exact e4
            · have w2 := n3 w.toNat (by omega)
              rw [Int.toNat_of_nonneg (show 0 ≤ w by omega)] at w2
              have h1 : jand w (jxor x (-1)) = 0 := (sub_iff (by omega) (by omega) (by omega) x1).mpr hr.1
              have h2 : jand w b ≠ 0 := (and64 (by omega) (by omega) (by omega) (by omega)).mpr ⟨low x, l.1.1, l.1.2.1, hr.2.1, by rw [← hb, tb_pow l.1.1 l.1.1, decide_eq_true rfl]⟩
              rw [h1] at w2
              have h3 : decide (b + mo < w) = true := by rw [decide_eq_true_iff]; omega
              have h4 : decide (w < b + nx) = true := by rw [decide_eq_true_iff]; omega
              have h5 : (jand w b != 0) = true := by rw [bne_iff_ne]; exact h2
              rw [h3, h4, h5] at w2
              exact absurd w2 (by decide)
          · have hmx : mo = x - b := Classical.byContradiction z
            rw [tA_eq x0 x1]
            unfold tSt
            rw [show x.toNat = (b + mo).toNat by omega]
            exact e4
        refine sX3_choose_85 hp tx ?_
        rw [sx1, jw_id (x := i + 1) (by omega) (by omega)]
        have wn : wsN V s (tA V s) x (txA V s (tA V s) x) ((b + mo).toNat + 1) = @ite _ (rtK V s x (b + mo)) (Classical.propDecidable _) (pOp (tA V s) (x - (b + mo)) (py V s (b + mo)) 1 (b + mo) (wsN V s (tA V s) x (txA V s (tA V s) x) (b + mo).toNat).1, min (wsN V s (tA V s) x (txA V s (tA V s) x) (b + mo).toNat).2 (1 + (tA V s (x - (b + mo))).2)) (wsN V s (tA V s) x (txA V s (tA V s) x) (b + mo).toNat) := by
          simp only [wsN]
          rw [Int.toNat_of_nonneg (show 0 ≤ b + mo by omega)]
        refine ⟨fun z => absurd z (by omega), fun _ => ⟨by omega, sx2, fun z => next m3 f3 ?_, fun z => ?_⟩⟩
        · rw [wn, if_neg]
          · exact e3
          · intro r
            have := gdx.2.1.mpr r.2.2
            omega
        · have g : gd V s (b + mo) := gdx.2.1.mp (by have := gdx.1; omega)
          have r : rtK V s x (b + mo) := ⟨sub1, tbl, g⟩
          have ri := rtK_in x0 x1 (by omega) sx2 r
          have q := sb_in (by omega) x1 (by omega) sx2 sub1
          have ct3 : vCt V t m3 := vCt_fr hc (fun j j0 j1 => ent_row f3 (by omega) (by omega) (by omega) (by omega))
          have bt := tA_bd hf ht s (x := x - (b + mo)) ri.2.1 (by omega)
          have pb := py_in ht (x := b + mo) (by omega) sx2 g
          refine c_payOf hp ht ct3 P3.1 (by omega) sx2 (gdx.2.2.2 subS).1 g (c_weighRoute (T := tA V s) hp (by omega) x1 ri.2.1 ri.2.2.1 q.1 e3 (clE_at (hT _ ri.2.1 ri.2.2.1 (fun j j0 j1 hj => hs j j0 j1 (ri.2.2.2.1 j j0 j1 hj))) f3 (by omega)) ⟨bt.2.1, bt.2.2.1, bt.2.2.2.1, bt.2.2.2.2⟩ (by omega) (fun m4 f4 e4 => next m4 (ent_tr f3 f4) ?_))
          rw [wn, if_pos r]
          exact e4
    have p2 : (0 : Int) < 2 ^ (low x).toNat := Int.pow_pos (by decide)
    refine key 64 0 0 m2 (by omega) (by decide) d.2.1 ?_ (by decide) (by decide) f2 ?_
    · rw [sub_iff (by decide) (by decide) d.2.1 (by omega)]
      intro j j0 j1 hj
      rw [tb_zero] at hj
      exact absurd hj (by decide)
    · have hg := wsN_gap (V := V) (s := s) (x := x) (T := tA V s) (a := txA V s (tA V s) x) (n := 0) (2 ^ (low x).toNat + 0 : Int).toNat (fun w w0 w1 hr => ?_)
      · rw [Nat.zero_add] at hg
        rw [hg]
        exact e2
      · have := hr.2.1
        rw [tb_lt (k := low x) (by omega) (by omega) l.1.1 (Int.le_refl _)] at this
        exact absurd this (by decide)
  have hlg := P1.2.1 _ l.1.1 l.1.2.1 hsl
  have hri := (P1.1.1 _ l.1.1 l.1.2.1).1
  have ct1 : vCt V t m1 := vCt_fr hc (fun j j0 j1 => ent_row f1 (by omega) (by omega) (by omega) (by omega))
  rw [hlg.1, hri, ct1.2.2.2.2.2.2 3 (by decide) (by decide)]
  refine ⟨l.1.1, l.1.2.1, fun z => loop m1 f1 ?_, fun z => ⟨l.1.1, l.1.2.1, l.1.1, l.1.2.1, ?_⟩⟩
  · have : txA V s (tA V s) x = (-1, 0, 0) := by
      unfold txA
      rw [if_pos]
      apply Classical.byContradiction
      intro w
      unfold rS enc at z
      rw [if_neg w] at z
      have := (vD_le ht 2 (V 8 (low x)) (V 6 s)).1
      omega
    rw [this]
    exact e1
  · have hv : vD V 2 (V 8 (low x)) (V 6 s) ≠ -1 := by
      intro w
      unfold rS enc at z
      rw [if_pos w] at z
      exact z (Int.le_refl _)
    have er : rS V s (low x) = vD V 2 (V 8 (low x)) (V 6 s) := by unfold rS enc; rw [if_neg hv]
    have tc := txC_in hf ht s (low x) hv
    rw [er, jw_id (x := V 9 3 * rdN V s (low x)) (by omega) (by omega), jw_id (x := V 9 3 * rdN V s (low x) * vD V 2 (V 8 (low x)) (V 6 s)) (by unfold txC at tc; omega) (by unfold txC at tc; omega), l.2.2.1]
    have e2 : txA V s (tA V s) x = pOp (tA V s) (x - 2 ^ (low x).toNat) (txC V s (low x)) 0 0 (-1, 0, 0) := by
      unfold txA
      rw [if_neg hv]
    refine c_weighTaxi (T := tA V s) hp (by omega) x1 d.2.1 d.2.2.1 ?_ e1 (clE_at (hT _ d.2.1 d.2.2.1 (sub6_dl (by omega) x1 l.1.1 l.1.2.1 l.1.2.2 hs)) f1 (by omega)) (tA_bd hf ht s d.2.1 (by omega)).2.1 ⟨tc.1, tc.2.1⟩ (fun m2 f2 e3 => ?_)
    · have := d.1
      rw [jshl1 _ l.1.1 (by omega)] at this
      exact this
    · have L := loop m2 (ent_tr f1 f2) (by rw [e2]; exact e3)
      rw [l.2.2.1] at L
      exact L
