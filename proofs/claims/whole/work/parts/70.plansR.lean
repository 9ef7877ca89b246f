/-! the reference's plans -/
theorem c_manyOf {m : jM} {Q : Int → jM → Prop} {x : Int} (x0 : 0 ≤ x) (x1 : x ≤ 2147483647) (hQ : Q (cnt x 20) m) : ML iX11_manyOf [(0, x)] m Q := by
  refine sX11_manyOf ?_
  refine lup2 (n := 20) (I := fun i (m1 : jM) c => 0 ≤ i ∧ i ≤ 20 ∧ m1 = m ∧ c = cnt x i.toNat) (G := fun i m1 c => GL iX11_manyOf m1 4 [(0, x), (0, c), (0, i)] [] Q) ?_ ?_ 0 m 0 ⟨by decide, by decide, rfl, rfl⟩
  · rintro i m1 c hi ⟨i0, -, rfl, rfl⟩ K
    have cn := cnt_nn x i.toNat
    have nx : cnt x (i + 1).toNat = cnt x i.toNat + if tb x i = true then 1 else 0 := by
      unfold cnt
      rw [show (i + 1).toNat = i.toNat + 1 by omega]
      simp only [sumN]
      rw [Int.toNat_of_nonneg i0]
    refine sX11_manyOf_4 ?_
    rw [jshr_bit (by omega) i0 (by omega), jw_id (x := i + 1) (by omega) (by omega)]
    refine ⟨fun y => absurd y (by omega), fun _ => K m1 _ ⟨by omega, by omega, rfl, ?_⟩⟩
    rw [nx]
    split
    · exact jw_id (by omega) (by omega)
    · exact jw_id (by omega) (by omega)
  · rintro i m1 c hi ⟨i0, i1, rfl, rfl⟩
    obtain rfl : i = 20 := by omega
    exact sX11_manyOf_4 ⟨fun _ => hQ, fun y => absurd hi y⟩
theorem rdN_cnt {V m : jM} {s p : Int} (h7 : 0 ≤ V 0 7 ∧ V 0 7 ≤ 20) (hS : rSt V s m) (p0 : 0 ≤ p) (p1 : p < 6) : cnt (m 195 p) 20 = rdN V s p := by
  have q := hS.2.1 p p0 p1
  unfold cnt rdN
  have e : (20 : Nat) = (V 0 7).toNat + (20 - (V 0 7).toNat) := by omega
  rw [e]
  refine sumN_ext (fun i i0 i1 => ?_) _ (fun i i0 i1 => ?_)
  · have t := q.2.2 i i0 (by omega)
    unfold rdF
    by_cases z : V 12 (V 15 i) = s ∧ vStp V i = p
    · rw [if_pos z, if_pos (t.mpr ⟨i0, by omega, z.1, z.2⟩)]
    · rw [if_neg z, if_neg]
      intro w
      have := t.mp w
      exact z ⟨this.2.2.1, this.2.2.2⟩
  · rw [if_neg]
    intro w
    have := (q.2.2 i (by omega) (by omega)).mp w
    have := this.2.1
    omega
theorem c_taxi {V m : jM} {Q : Int → jM → Prop} {k s l : Int} (hf : vKf V) (hk : vKt V) (hG : rG V k m) (hS : rSt V s m) (s0 : 0 ≤ s) (s1 : s < V 0 2) (l0 : 0 ≤ l) (l1 : l < V 0 3) (hQ : Q (if vD V 2 (V 8 l) (V 6 s) = -1 then -1 else txC V s l) m) : ML iX11_taxi [(2, 139), (0, l)] m Q := by
  have tk := hf.1
  have hN := hk.1
  have k0 := hG.2.2.2.2.1.1
  have nu := hG.2.2.2.2.1.2.2.2.2 3 (by decide) (by decide)
  have pl_ := hk.2.2.2.1 l l0 l1
  have ps := hk.2.2.1 s s0 s1
  refine sX11_taxi (c_placeOfStop hG l0 (by omega) ?_)
  rw [hS.1]
  refine c_placeOfSchool hG s0 (by omega) (c_leastV hG (by decide) (by decide) pl_.1 (by omega) ps.1 (by omega) ?_)
  have d1 := vD_ge hk 2 (V 8 l) (V 6 s)
  have rb := (hS.2.1 l l0 (by omega)).1
  rw [hG.1.1, jw_id (x := 7 * k) (by omega) (by omega), jw_id (x := 7 * k + 3) (by omega) (by omega)]
  refine ⟨fun z => ⟨by omega, by omega, l0, by omega, c_manyOf rb.1 (by omega) ?_⟩, fun z => ?_⟩
  · rw [rdN_cnt tk.2.2.2.2 hS l0 (by omega), nu]
    have hv : vD V 2 (V 8 l) (V 6 s) ≠ -1 := by omega
    have tc := txC_in hf hk s l hv
    rw [jw_id (x := V 9 3 * rdN V s l) (by omega) (by omega), jw_id (by unfold txC at tc; omega) (by unfold txC at tc; omega)]
    rw [if_neg hv] at hQ
    exact hQ
  · rw [if_pos (by omega)] at hQ
    exact hQ
theorem c_ridden {V m : jM} {Q : Int → jM → Prop} {k s : Int} (hf : vKf V) (hk : vKt V) (hG : rG V k m) (hS : rSt V s m) (hQ : Q (srv V s) m) : ML iX11_ridden [(2, 139)] m Q := by
  have tk := hf.1
  have hN := hk.1
  have k0 := hG.2.2.2.2.1.1
  refine sX11_ridden ?_
  refine lup2 (n := V 0 3) (I := fun i (m1 : jM) x => 0 ≤ i ∧ i ≤ V 0 3 ∧ m1 = m ∧ x = mkS (fun p => decide (rdN V s p ≠ 0)) i.toNat) (G := fun i m1 x => GL iX11_ridden m1 4 [(2, 139), (0, x), (0, i)] [] Q) ?_ ?_ 0 m 0 ⟨by decide, by omega, rfl, rfl⟩
  · rintro i m1 x hi ⟨i0, -, rfl, rfl⟩ K
    have ra := rAt_iff tk.2.2.2.2 hS i0 (by omega)
    have nx : mkS (fun p => decide (rdN V s p ≠ 0)) (i + 1).toNat = if decide (rdN V s i ≠ 0) = true then jor (mkS (fun p => decide (rdN V s p ≠ 0)) i.toNat) (jshl 1 i) else mkS (fun p => decide (rdN V s p ≠ 0)) i.toNat := by
      rw [show (i + 1).toNat = i.toNat + 1 by omega]
      simp only [mkS]
      rw [Int.toNat_of_nonneg i0]
    refine sX11_ridden_4 ?_
    rw [hG.1.1, k0.2.2.2.2.2.1, jw_id (x := i + 1) (by omega) (by omega)]
    refine ⟨by omega, by omega, fun z => absurd z (by omega), fun _ => ⟨i0, by omega, fun z => K m1 _ ⟨by omega, by omega, rfl, ?_⟩, fun z => K m1 _ ⟨by omega, by omega, rfl, ?_⟩⟩⟩
    · rw [nx, if_neg]
      rw [decide_eq_true_iff]
      intro w
      exact (ra.mpr w) z
    · rw [nx, if_pos]
      rw [decide_eq_true_iff]
      exact ra.mp z
  · rintro i m1 x hi ⟨i0, i1, rfl, rfl⟩
    obtain rfl : i = V 0 3 := by omega
    refine sX11_ridden_4 ?_
    rw [hG.1.1, k0.2.2.2.2.2.1]
    exact ⟨by omega, by omega, fun _ => hQ, fun y => absurd (Int.le_refl _) y⟩
/-- an entry of the reference's table -/
def rE (x : Int) (a : Int × Int × Int) (m : jM) : Prop := m 203 x = a.1 ∧ (0 ≤ a.1 → m 204 x = a.2.1)
def en2 (x : Int) (m m' : jM) : Prop := ∀ q i, ¬ ((q = 203 ∨ q = 204) ∧ i = x) → m' q i = m q i
theorem en2_rf {x : Int} {m : jM} : en2 x m m := fun _ _ _ => rfl
theorem en2_tr {x : Int} {m m1 m2 : jM} (h : en2 x m m1) (h2 : en2 x m1 m2) : en2 x m m2 := fun q i hq => (h2 q i hq).trans (h q i hq)
theorem en2_up {x q v : Int} {m m' : jM} (h : en2 x m m') (hq : q = 203 ∨ q = 204) : en2 x m (jup m' q x v) := fun q' i hi => by
  unfold jup
  rw [if_neg (by rintro ⟨rfl, rfl⟩; exact hi ⟨hq, rfl⟩)]
  exact h q' i hi
theorem en2_fr {x : Int} {m m' : jM} (h : en2 x m m') : frx [203, 204] [] m m' := fun q i hq _ => h q i (fun z => hq (by simp only [List.mem_cons, List.not_mem_nil, or_false]; omega))
theorem rE_at {x y : Int} {a : Int × Int × Int} {m m' : jM} (h : rE y a m) (he : en2 x m m') (hy : y ≠ x) : rE y a m' := by
  unfold rE at *
  rw [he _ _ (fun z => hy z.2), he _ _ (fun z => hy z.2)]
  exact h
theorem c_offer {m : jM} {Q : Int → jM → Prop} {x r cost dr code : Int} {T : Int → pT} {a : Int × Int × Int} (x0 : 0 ≤ x) (x1 : x < 64) (r0 : 0 ≤ r) (r1 : r < 64) (hx : rE x a m) (hr : rE r (T r).1 m) (hb : -1 ≤ (T r).1.1 ∧ (T r).1.1 ≤ 1306669320 ∧ (0 ≤ (T r).1.1 → 0 ≤ (T r).1.2.1 ∧ (T r).1.2.1 ≤ 6)) (hc : 0 ≤ cost ∧ cost ≤ 217778220) (hd : 0 ≤ dr ∧ dr ≤ 1) (hQ : ∀ m', en2 x m m' → rE x (pOp T r cost dr code a) m' → Q 0 m') : ML iX11_offer [(2, 139), (0, x), (0, r), (0, cost), (0, dr)] m Q := by
  obtain ⟨h1, h2⟩ := hx
  obtain ⟨g1, g2⟩ := hr
  refine sX11_offer ?_
  rw [g1, h1]
  refine ⟨r0, r1, fun z => ⟨r0, r1, r0, r1, x0, x1, ?_⟩, fun z => hQ m en2_rf ?_⟩
  · have tc := hb.2.2 z
    rw [g2 z, jw_id (x := (T r).1.1 + cost) (by omega) (by omega), jw_id (x := (T r).1.2.1 + dr) (by omega) (by omega)]
    have pe : pOp T r cost dr code a = if 0 ≤ a.1 ∧ (a.1 < (T r).1.1 + cost ∨ ((T r).1.1 + cost = a.1 ∧ a.2.1 ≤ (T r).1.2.1 + dr)) then a else ((T r).1.1 + cost, (T r).1.2.1 + dr, code) := by
      unfold pOp
      rw [if_neg (by omega)]
    have keep : (0 ≤ a.1 ∧ (a.1 < (T r).1.1 + cost ∨ ((T r).1.1 + cost = a.1 ∧ a.2.1 ≤ (T r).1.2.1 + dr))) → Q 0 m := by
      intro w
      refine hQ m en2_rf ?_
      rw [pe, if_pos w]
      exact ⟨h1, h2⟩
    have better : ¬ (0 ≤ a.1 ∧ (a.1 < (T r).1.1 + cost ∨ ((T r).1.1 + cost = a.1 ∧ a.2.1 ≤ (T r).1.2.1 + dr))) → Q 0 (jup (jup m 203 x ((T r).1.1 + cost)) 204 x ((T r).1.2.1 + dr)) := by
      intro w
      refine hQ _ (en2_up (en2_up en2_rf (Or.inl rfl)) (Or.inr rfl)) ?_
      rw [pe, if_neg w]
      exact ⟨by rw [jup_ne (by decide), jup_s], fun _ => by rw [jup_s]⟩
    refine ⟨fun w => ⟨x0, x1, x0, x1, better (by omega)⟩, fun w => ⟨x0, x1, fun w2 => keep (by omega), fun w2 => ⟨x0, x1, fun w3 => ⟨x0, x1, x0, x1, better (by omega)⟩, fun w3 => ⟨x0, x1, ?_⟩⟩⟩⟩
    rw [h2 (by omega)]
    exact ⟨fun w4 => ⟨x0, x1, x0, x1, better (by omega)⟩, fun w4 => keep (by omega)⟩
  · unfold pOp
    rw [if_pos (by omega)]
    exact ⟨h1, h2⟩
/-- the reference stands on this -/
def rPl (V : jM) (k s : Int) (m : jM) : Prop := rG V k m ∧ rSt V s m ∧ ∀ x, 0 < x → x < 2 ^ (V 0 3).toNat → rAl V s x m
abbrev plDp : List Int := 190 :: 191 :: 195 :: 196 :: 201 :: 197 :: 198 :: 199 :: 200 :: vwDp
abbrev plDf : List (Int × Int) := [(139, 69), (139, 12), (139, 44), (139, 50), (139, 75)]
theorem rPl_fr {V m m' : jM} {k s : Int} (h : rPl V k s m) (hf : agr plDp plDf m m') : rPl V k s m' := by
  refine ⟨rG_fr h.1 (agr_at hf 139 69 (by decide)) (agr_at hf 139 12 (by decide)) (agr_at hf 139 44 (by decide)) (agr_at hf 139 50 (by decide)) (agr_sub hf (by decide) (by decide)), rSt_fr h.2.1 (agr_at hf 139 75 (by decide)) (agr_row hf 195 (by decide)) (agr_row hf 196 (by decide)) (agr_row hf 201 (by decide)), fun x x0 x1 => ?_⟩
  have a := h.2.2 x x0 x1
  refine ⟨rlO_fr a.1 (by rw [agr_row hf 197 (by decide)]) (fun i _ _ => by rw [agr_row hf 198 (by decide)]), ?_, ?_, ?_⟩
  · rw [agr_row hf 199 (by decide)]; exact a.2.1
  · rw [agr_row hf 199 (by decide)]; exact a.2.2.1
  · rw [agr_row hf 200 (by decide)]; exact a.2.2.2
def rT (V : jM) (s n : Int) (m : jM) : Prop := ∀ x, 0 ≤ x → x < n → sub6 x (srv V s) → rE x (tA V s x).1 m
theorem sub_le {V : jM} (hk : vKt V) {s x : Int} (x0 : 0 ≤ x) (x1 : x < 64) (h : sub6 x (srv V s)) : x ≤ srv V s ∧ x < 2 ^ (V 0 3).toNat := by
  have so := srv_ok hk s
  have := (sb_in so.1 so.2.1 x0 x1 h).2.2.1
  omega
theorem c_plansT {V m : jM} {Q : Int → jM → Prop} {k s x : Int} (hf : vKf V) (hk : vKt V) (hP : rPl V k s m) (s0 : 0 ≤ s) (s1 : s < V 0 2) (x0 : 0 < x) (x1 : x ≤ srv V s) (hT : rT V s x m) (hQ : ∀ m', en2 x m m' → rT V s (x + 1) m' → GL iX11_plans m' 21 [(2, 139), (0, srv V s), (0, x + 1), (9, 0), (9, 0)] [] Q) : GL iX11_plans m 21 [(2, 139), (0, srv V s), (0, x), (9, 0), (9, 0)] [] Q := by
  have so := srv_ok hk s
  have x64 : x < 64 := by omega
  have f1 : en2 x m (jup m 203 x (-1)) := en2_up en2_rf (Or.inl rfl)
  have P1 : rPl V k s (jup m 203 x (-1)) := rPl_fr hP (agr_of (en2_fr f1) (by decide))
  refine sX11_plans_21 ⟨fun z => absurd z (by omega), fun _ => ⟨by omega, x64, fun z => ?_, fun z => ?_⟩⟩
  · have hs : sub6 x (srv V s) := (sub_iff (by omega) x64 so.1 so.2.1).mp z
    have l := lw_in x0 x64
    have d := dl_in (by omega) x64 l.1.1 l.1.2.1 l.1.2.2
    have hsl := hs _ l.1.1 l.1.2.1 l.1.2.2
    have sv := so.2.2.2 _ l.1.1 (by omega) |>.mp hsl
    have hrest : jand x (jxor (jshl 1 (low x)) (-1)) = x - 2 ^ (low x).toNat := by
      have hsx : sub6 (2 ^ (low x).toNat) x := by
        intro i i0 i1 hi
        rw [tb_pow l.1.1 i0, decide_eq_true_iff] at hi
        rw [hi]; exact l.1.2.2
      have hb : (0 : Int) < 2 ^ (low x).toNat := Int.pow_pos (by decide)
      rw [jshl1 _ l.1.1 (by omega)]
      exact (sb_in (by omega) x64 (by omega) (by omega) hsx).2.1
    have e0 : rE x (-1, 0, 0) (jup m 203 x (-1)) := ⟨jup_s, fun w => absurd w (by decide)⟩
    -- the loop over sets
    have loop : ∀ m2, en2 x m m2 → rE x (txA V s (tA V s) x) m2 → GL iX11_plans m2 78 [(2, 139), (0, srv V s), (0, x), (0, low x), (0, 1)] [] Q := by
      intro m2 f2 e2
      refine lup (n := x + 1) (I := fun y m3 => 1 ≤ y ∧ y ≤ x + 1 ∧ en2 x m m3 ∧ rE x (wsN V s (tA V s) x (txA V s (tA V s) x) y.toNat).1 m3) (G := fun y m3 => GL iX11_plans m3 78 [(2, 139), (0, srv V s), (0, x), (0, low x), (0, y)] [] Q) ?_ ?_ 1 m2 ⟨by decide, by omega, f2, ?_⟩
      · rintro y m3 hy ⟨y1, -, f3, e3⟩ K
        have P3 : rPl V k s m3 := rPl_fr hP (agr_of (en2_fr f3) (by decide))
        have wn : wsN V s (tA V s) x (txA V s (tA V s) x) (y + 1).toNat = @ite _ (rtK V s x y) (Classical.propDecidable _) (pOp (tA V s) (x - y) (py V s y) 1 y (wsN V s (tA V s) x (txA V s (tA V s) x) y.toNat).1, min (wsN V s (tA V s) x (txA V s (tA V s) x) y.toNat).2 (1 + (tA V s (x - y)).2)) (wsN V s (tA V s) x (txA V s (tA V s) x) y.toNat) := by
          rw [show (y + 1).toNat = y.toNat + 1 by omega]
          simp only [wsN]
          rw [Int.toNat_of_nonneg (show 0 ≤ y by omega)]
        have skip : ¬ rtK V s x y → GL iX11_plans m3 78 [(2, 139), (0, srv V s), (0, x), (0, low x), (0, y + 1)] [] Q := fun hn => K m3 ⟨by omega, by omega, f3, by rw [wn, if_neg hn]; exact e3⟩
        refine sX11_plans_78 ?_
        rw [jw_id (x := y + 1) (by omega) (by omega), jshr_bit (by omega) l.1.1 (by omega)]
        refine ⟨fun w => absurd w (by omega), fun _ => ⟨fun w => skip (fun r => w ((sub_iff (by omega) (by omega) (by omega) x64).mpr r.1)), fun w => ⟨fun w2 => skip (fun r => ?_), fun w2 => ?_⟩⟩⟩
        · rw [if_pos r.2.1] at w2
          exact w2 rfl
        · have sy : sub6 y x := (sub_iff (by omega) (by omega) (by omega) x64).mp (Classical.byContradiction w)
          have ty : tb y (low x) = true := by
            apply Classical.byContradiction
            intro v
            rw [if_neg v] at w2
            exact w2 (by decide)
          have ys : sub6 y (srv V s) := fun j j0 j1 hj => hs j j0 j1 (sy j j0 j1 hj)
          have al := P3.2.2 y (by omega) (sub_le hk (by omega) (by omega) ys).2
          refine ⟨by omega, by omega, fun v => skip (fun r => ?_), fun v => ⟨by omega, by omega, ?_⟩⟩
          · have := al.2.2.1.mpr r.2.2
            omega
          · have g : gd V s y := al.2.2.1.mp (by have := al.2.1; omega)
            have r : rtK V s x y := ⟨sy, ty, g⟩
            have ri := rtK_in x0 x64 (by omega) (by omega) r
            have q := sb_in (by omega) x64 (by omega) (by omega) sy
            have bt := tA_bd hf hk s (x := x - y) ri.2.1 (by omega)
            have pb := py_in hk (x := y) (by omega) (by omega) g
            rw [al.2.2.2 g, q.2.1]
            refine c_offer (T := tA V s) (code := y) (by omega) x64 ri.2.1 (by omega) e3 (rE_at (hT _ ri.2.1 ri.2.2.1 (fun j j0 j1 hj => hs j j0 j1 (ri.2.2.2.1 j j0 j1 hj))) f3 (by omega)) ⟨bt.1, bt.2.1, bt.2.2.1⟩ (by omega) (by decide) (fun m4 f4 e4 => K m4 ⟨by omega, by omega, en2_tr f3 f4, by rw [wn, if_pos r]; exact e4⟩)
      · rintro y m3 hy ⟨y1, y2, f3, e3⟩
        obtain rfl : y = x + 1 := by omega
        refine sX11_plans_78 ⟨fun _ => ?_, fun w => absurd (by omega) w⟩
        rw [jw_id (x := x + 1) (by omega) (by omega)]
        refine hQ m3 f3 (fun z z0 z1 zs => ?_)
        by_cases e : z = x
        · rw [e, tA_eq x0 x64]
          unfold tSt
          rw [show x.toNat + 1 = (x + 1).toNat by omega]
          exact e3
        · exact rE_at (hT z z0 (by omega) zs) f3 e
      · have hg := wsN_gap (V := V) (s := s) (x := x) (T := tA V s) (a := txA V s (tA V s) x) (n := 0) 1 (fun w w0 w1 hr => ?_)
        · show rE x (wsN V s (tA V s) x (txA V s (tA V s) x) (0 + 1)).1 m2
          rw [hg]
          exact e2
        · have := hr.2.1
          rw [show w = 0 by omega, tb_zero] at this
          exact absurd this (by decide)
    refine c_firstOf x0 (by omega) (c_taxi hf hk P1.1 P1.2.1 s0 s1 l.1.1 sv.1 ⟨fun w => loop _ f1 ?_, fun w => ?_⟩)
    · have hv : vD V 2 (V 8 (low x)) (V 6 s) = -1 := by
        apply Classical.byContradiction
        intro v
        have := txC_in hf hk s (low x) v
        rw [if_neg v] at w
        omega
      unfold txA
      rw [if_pos hv]
      exact e0
    · have hv : vD V 2 (V 8 (low x)) (V 6 s) ≠ -1 := by
        intro v
        rw [if_pos v] at w
        exact absurd (by decide) w
      have tc := txC_in hf hk s (low x) hv
      have bt := tA_bd hf hk s d.2.1 (by omega)
      refine c_taxi hf hk P1.1 P1.2.1 s0 s1 l.1.1 sv.1 ?_
      rw [if_neg hv, hrest]
      refine c_offer (T := tA V s) (code := 0) (by omega) x64 d.2.1 (by omega) e0 (rE_at (hT _ d.2.1 d.2.2.1 (sub6_dl (by omega) x64 l.1.1 l.1.2.1 l.1.2.2 hs)) f1 (by omega)) ⟨bt.1, bt.2.1, bt.2.2.1⟩ ⟨tc.1, tc.2.1⟩ (by decide) (fun m2 f2 e2 => loop m2 (en2_tr f1 f2) ?_)
      unfold txA
      rw [if_neg hv]
      exact e2
  · rw [jw_id (x := x + 1) (by omega) (by omega)]
    refine hQ _ f1 (fun y y0 y1 ys => ?_)
    have e : y ≠ x := by
      rintro rfl
      exact z ((sub_iff (by omega) x64 so.1 so.2.1).mpr ys)
    exact rE_at (hT y y0 (by omega) ys) f1 e
