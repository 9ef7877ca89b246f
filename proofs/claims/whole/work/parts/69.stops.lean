/-! the stops of a route, in the class -/
theorem rR_len {V : jM} (hk : vKt V) {s : Int} : ∀ (n : Nat) (x i : Int), cnt x 6 ≤ n → 0 ≤ x → x < 64 → bh V s x i < 268435456 → ((rR V s n x i).length : Int) = cnt x 6 := by
  intro n
  induction n with
  | zero =>
    intro x i hc x0 x1 hb
    have := (cnt_nn x 6).1
    simp only [rR, List.length_nil]
    omega
  | succ n ih =>
    intro x i hc x0 x1 hb
    simp only [rR]
    by_cases e : x = 0
    · rw [if_pos e, e]; rfl
    · rw [if_neg e]
      have h := rN_in (V := V) (s := s) (x := x) (i := i) (by omega) x1 hb
      have d := dl_in x0 x1 h.1 h.2.1 h.2.2.1
      have l0 := (rL_bd hk i (rN V s x i)).1
      have := ih (x - 2 ^ (rN V s x i).toNat) (rN V s x i) (by omega) d.2.1 (by omega) (by omega)
      simp only [List.length_cons]
      omega
theorem c_firstWith {V m : jM} {Q : Int → jM → Prop} {s p x a : Int} (hp : jPl p) (ht : vKt V) (hP : cPl V s p m) (x0 : 0 ≤ x) (x1 : x < 64) (hs : sub6 x (srv V s)) (ha : a = -1 ∨ (0 ≤ a ∧ a < 6 ∧ tb (srv V s) a = true)) (hb : bh V s x a < 268435456) (hQ : Q (if x = 0 then -1 else rN V s x a) m) : ML iX3_firstWith [(2, p), (0, x), (0, a), (0, bh V s x a)] m Q := by
  have so := srv_ok ht s
  have hN := ht.1
  refine sX3_firstWith hp ?_
  have bx := bh_in ht s x0 x1 a
  refine lup (n := 6) (I := fun j (m1 : jM) => 0 ≤ j ∧ j ≤ 6 ∧ m1 = m ∧ (x ≠ 0 → j ≤ rN V s x a)) (G := fun j m1 => GL iX3_firstWith m1 3 [(2, p), (0, x), (0, a), (0, bh V s x a), (0, j), (9, 0)] [] Q) ?_ ?_ 0 m ⟨by decide, by decide, rfl, fun h => (rN_in (by omega) x1 hb).1⟩
  · rintro j m1 hj ⟨j0, -, rfl, hr⟩ K
    refine sX3_firstWith_3 hp ?_
    rw [jshr_bit (by omega) j0 (by omega), jw_id (x := j + 1) (by omega) (by omega), jw_id (x := x * 6) (by omega) (by omega), jw_id (x := x * 6 + j) (by omega) (by omega)]
    refine ⟨fun y => absurd y (by omega), fun _ => ⟨fun y => K m1 ⟨by omega, by omega, rfl, fun h => ?_⟩, fun y => ?_⟩⟩
    · have h1 := rN_in (V := V) (s := s) (x := x) (i := a) (by omega) x1 hb
      have h2 := hr h
      have : j ≠ rN V s x a := by
        intro e
        rw [← e] at h1
        rw [if_pos h1.2.2.1] at y
        exact absurd y (by decide)
      omega
    · have hbj : tb x j = true := by
        apply Classical.byContradiction
        intro w
        rw [if_neg w] at y
        exact y rfl
      have xne : x ≠ 0 := by
        intro w
        rw [w, tb_zero] at hbj
        exact absurd hbj (by decide)
      have h1 := rN_in (V := V) (s := s) (x := x) (i := a) (by omega) x1 hb
      have d := dl_in x0 x1 j0 hj hbj
      have e1 := ((hP.2.2 x (by omega) x1).2.2.2 hs).2 j j0 hj hbj
      have j3 := ((so.2.2.2 j j0 (by omega)).mp (hs j j0 hj hbj)).1
      have b1 := rL_bd ht a j
      have b2 := bh_in ht s d.2.1 (by omega) j
      have hstep : rL V a j + bh V s (x - 2 ^ j.toNat) j = bh V s x a → j = rN V s x a := by
        intro e
        apply Classical.byContradiction
        intro ne
        have lt := hr xne
        have := (agF_ok (s := x) (f := fun j => rL V a j + bh V s (x - 2 ^ j.toNat) j) 6).2.1 j j0 (by show j < rN V s x a; omega) hbj
        rw [← bh_eq (by omega) x1] at this
        have this : bh V s x a < rL V a j + bh V s (x - 2 ^ j.toNat) j := this
        omega
      have fin : rL V a j + bh V s (x - 2 ^ j.toNat) j = bh V s x a → Q j m1 := by
        intro e
        rw [if_neg xne, ← hstep e] at hQ
        exact hQ
      have go : rL V a j + bh V s (x - 2 ^ j.toNat) j ≠ bh V s x a → GL iX3_firstWith m1 3 [(2, p), (0, x), (0, a), (0, bh V s x a), (0, j + 1), (9, 0)] [] Q := by
        intro ne
        refine K m1 ⟨by omega, by omega, rfl, fun _ => ?_⟩
        have : j ≠ rN V s x a := by
          intro e
          rw [← e] at h1
          exact ne h1.2.2.2
        have := hr xne
        omega
      rw [e1]
      refine ⟨fun w => ?_, fun w => ?_⟩
      · rcases ha with rfl | ⟨a0, a1, a2⟩
        · exact absurd rfl w
        · rw [jw_id (x := a * 6) (by omega) (by omega), jw_id (x := a * 6 + j) (by omega) (by omega), (hP.2.1 a a0 a1 a2).2 j j0 j3, jw_id (by omega) (by omega)]
          exact ⟨by omega, by omega, by omega, by omega, fun w2 => go w2, fun w2 => fin (Classical.byContradiction w2)⟩
      · have e2 : rL V a j = 0 := by
          unfold rL
          rw [if_pos (Classical.byContradiction w)]
        rw [e2] at go fin
        rw [jw_id (by omega) (by omega)]
        exact ⟨by omega, by omega, fun w2 => go w2, fun w2 => fin (Classical.byContradiction w2)⟩
  · rintro j m1 hj ⟨j0, j1, rfl, hr⟩
    refine sX3_firstWith_3 hp ⟨fun _ => ?_, fun y => absurd hj y⟩
    by_cases e : x = 0
    · rw [if_pos e] at hQ; exact hQ
    · have h1 := rN_in (V := V) (s := s) (x := x) (i := a) (by omega) x1 hb
      have := hr e
      omega
/-- the i-th stop of a set's route, or -1 -/
noncomputable def stpI (V : jM) (s x i : Int) : Int := @ite _ (0 ≤ i ∧ i < cnt x 6 ∧ 0 < x ∧ x < 64 ∧ sub6 x (srv V s) ∧ bh V s x (-1) < 268435456) (Classical.propDecidable _) (fnL (rR V s 6 x (-1)) i) (-1)
theorem c_stopInRoute {V m : jM} {Q : Int → jM → Prop} {s p x i : Int} (hp : jPl p) (ht : vKt V) (hP : cPl V s p m) (hQ : Q (stpI V s x i) m) : ML iX3_stopInRoute [(2, p), (0, x), (0, i)] m Q := by
  have no : ¬ (0 ≤ i ∧ i < cnt x 6 ∧ 0 < x ∧ x < 64 ∧ sub6 x (srv V s) ∧ bh V s x (-1) < 268435456) → Q (-1) m := by
    intro h
    unfold stpI at hQ
    rw [if_neg h] at hQ
    exact hQ
  have c6 := (cnt_nn x 6).2
  refine sX3_stopInRoute hp (sX10_within ⟨fun z => ⟨fun _ => no (by omega), fun w => absurd rfl w⟩, fun z => ⟨fun z2 => ⟨fun _ => no (by omega), fun w => absurd rfl w⟩, fun z2 => ⟨fun w => absurd w (by decide), fun _ => ?_⟩⟩⟩)
  refine sX10_within ⟨fun z3 => ⟨fun _ => no (by omega), fun w => absurd rfl w⟩, fun z3 => ⟨fun z4 => ⟨fun _ => no (by omega), fun w => absurd rfl w⟩, fun z4 => ⟨fun w => absurd w (by decide), fun _ => ⟨fun z5 => no (by omega), fun z5 => ?_⟩⟩⟩⟩
  have hx := hP.2.2 x (by omega) (by omega)
  refine ⟨by omega, by omega, fun z6 => ⟨by omega, by omega, ?_⟩, fun z6 => no (fun h => ?_)⟩
  · have hs : sub6 x (srv V s) := by
      apply Classical.byContradiction
      intro w
      rw [hx.2.2.1 w] at z6
      exact absurd z6 (by decide)
    rw [(hx.2.2.2 hs).1] at z6 ⊢
    have hlen := rR_len ht (s := s) 6 x (-1) c6 (by omega) (by omega) z6
    have key : ∀ (n : Nat) (st rest stop : Int) (pre : List Int), i + 1 - st ≤ n → st ≤ i + 1 → 0 ≤ st → (pre.length : Int) = st → rR V s 6 x (-1) = pre ++ rR V s (6 - pre.length) rest stop → 0 ≤ rest → rest < 64 → sub6 rest (srv V s) → (stop = -1 ∨ (0 ≤ stop ∧ stop < 6 ∧ tb (srv V s) stop = true)) → bh V s rest stop < 268435456 → (0 < st → stop = fnL pre (st - 1)) → cnt rest 6 + st = cnt x 6 → GL iX3_stopInRoute m 51 [(2, p), (9, 0), (0, i), (0, rest), (0, bh V s rest stop), (0, stop), (0, st)] [] Q := by
      intro n
      induction n with
      | zero =>
        intro st rest stop pre hn h1 st0 hl he r0 r1 rs hst hb hstop hc
        have : st = i + 1 := by omega
        have cr := (cnt_nn rest 6).1
        refine sX3_stopInRoute_51 hp ⟨fun _ => ?_, fun w => absurd (by omega) w⟩
        unfold stpI at hQ
        rw [if_pos ⟨by omega, by omega, by omega, by omega, hs, z6⟩, he] at hQ
        rw [hstop (by omega)]
        have e2 : fnL (pre ++ rR V s (6 - pre.length) rest stop) i = fnL pre (st - 1) := by
          unfold fnL
          rw [if_pos (by omega), if_pos (by omega), List.getD_eq_getElem?_getD, List.getD_eq_getElem?_getD, List.getElem?_append_left (by omega), show (st - 1).toNat = i.toNat by omega]
        rw [e2] at hQ
        exact hQ
      | succ n ih =>
        intro st rest stop pre hn h1 st0 hl he r0 r1 rs hst hb hstop hc
        by_cases hsi : st = i + 1
        · have cr := (cnt_nn rest 6).1
          refine sX3_stopInRoute_51 hp ⟨fun _ => ?_, fun w => absurd (by omega) w⟩
          unfold stpI at hQ
          rw [if_pos ⟨by omega, by omega, by omega, by omega, hs, z6⟩, he] at hQ
          rw [hstop (by omega)]
          have e2 : fnL (pre ++ rR V s (6 - pre.length) rest stop) i = fnL pre (st - 1) := by
            unfold fnL
            rw [if_pos (by omega), if_pos (by omega), List.getD_eq_getElem?_getD, List.getD_eq_getElem?_getD, List.getElem?_append_left (by omega), show (st - 1).toNat = i.toNat by omega]
          rw [e2] at hQ
          exact hQ
        · refine sX3_stopInRoute_51 hp ⟨fun w => absurd w (by omega), fun _ => c_firstWith hp ht hP r0 r1 rs hst hb ?_⟩
          by_cases er : rest = 0
          · rw [if_pos er]
            refine ⟨fun w => absurd rfl w, fun _ => no (fun h => ?_)⟩
            rw [er] at hc
            have : cnt 0 6 = 0 := rfl
            omega
          · rw [if_neg er]
            have h := rN_in (V := V) (s := s) (x := rest) (i := stop) (by omega) r1 hb
            have d := dl_in r0 r1 h.1 h.2.1 h.2.2.1
            have l0 := (rL_bd ht stop (rN V s rest stop)).1
            have e1 := ((hP.2.2 rest (by omega) r1).2.2.2 rs).2 _ h.1 h.2.1 h.2.2.1
            rw [jw_id (x := rest * 6) (by omega) (by omega), jw_id (x := rest * 6 + rN V s rest stop) (by omega) (by omega), jw_id (x := st + 1) (by omega) (by omega), e1, d.1]
            refine ⟨fun _ => ⟨by omega, by omega, ?_⟩, fun w => absurd (by omega) w⟩
            have cr := cnt_nn rest 6
            refine ih (st + 1) _ _ (pre ++ [rN V s rest stop]) (by omega) (by omega) (by omega) (by rw [List.length_append]; simp only [List.length_singleton]; omega) ?_ d.2.1 (by omega) (sub6_dl r0 r1 h.1 h.2.1 h.2.2.1 rs) (Or.inr ⟨h.1, h.2.1, rs _ h.1 h.2.1 h.2.2.1⟩) (by omega) (fun _ => ?_) (by omega)
            · rw [he, List.append_assoc, List.length_append]
              congr 1
              rw [show 6 - pre.length = (6 - (pre.length + [rN V s rest stop].length)) + 1 by simp only [List.length_singleton]; omega]
              simp only [rR]
              rw [if_neg er]
              rfl
            · rw [show st + 1 - 1 = (pre.length : Int) by omega]
              exact (fnL_app pre [] _).symm
    exact key (i + 1).toNat 0 x (-1) [] (by omega) (by omega) (by decide) rfl rfl (by omega) (by omega) hs (Or.inl rfl) z6 (fun h => absurd h (by decide)) (by omega)
  · have := (hx.2.2.2 h.2.2.2.2.1).1
    rw [this] at z6
    exact z6 h.2.2.2.2.2
