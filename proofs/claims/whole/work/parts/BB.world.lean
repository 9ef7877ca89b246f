/-! the world at the law's start -/
theorem linT1 {q : Cond} (h : q ∈ tables_1_1) : q ∈ lw_tbl := List.mem_append_right _ (List.mem_append_left _ h)
theorem linT2 {q : Cond} (h : q ∈ tables_1_2) : q ∈ lw_tbl := List.mem_append_right _ (List.mem_append_right _ (List.mem_append_left _ h))
abbrev gN : Cond := Jvm.Cond.and given_1 narrow_1
abbrev tUN : Term := .static "SchoolRides$Text" "UNTOLD" "[I"
abbrev tST : Term := .string RX6 28
abbrev tSV : Term := .field tST "java/lang/String" "value" "[B"
theorem nf_un : ∀ j : Fin 7, (flatC gN)[12 + (j : Nat)]? = some (Cond.eq (.elem tUN (.int (Int32.ofNat (j : Nat)))) (.int (Int32.ofInt (uT ((j : Nat) : Int))))) := by decide +kernel
theorem nf_el : ∀ j : Fin 176, (flatC gN)[47 + (j : Nat)]? = some (Cond.eq (.elem tSV (.int (Int32.ofNat (j : Nat)))) (.int ((([wBy] : List (List Int32)).getD 0 []).getD (j : Nat) 0))) := by decide +kernel
/-- an array of ints, by what is said of it -/
theorem va_Xof {args : Array Value} {s : State} {tm : Term} {N : Nat} {f : Nat → Int32} (hN : N < 2 ^ 31) (harr : (Cond.arrayOf tm .int).before args s = true) (hlen : (Term.length tm).eval args s none [] s = some (.int (Int32.ofNat N))) (hel : ∀ j : Nat, j < N → (Term.elem tm (.int (Int32.ofNat j))).eval args s none [] s = some (.int (f j))) : ∃ t : Nat, tm.eval args s none [] s = some (.ref t) ∧ va_X t N f s s.heap ∧ t < s.heap.size := by
  obtain ⟨t, cell, ht, hat, hv⟩ := Term.length_spec hlen
  have hsz : cell.slots.size < 2 ^ 31 := by
    simp only [Term.eval, ht, hat, Option.bind_eq_bind, Option.bind_some] at hlen
    by_cases hlt : cell.slots.size < 2147483648
    · exact hlt
    · simp [hlt] at hlen
  obtain ⟨hcell, hkn, -, -⟩ := State.arrayAt?_spec hat
  obtain ⟨hof, -⟩ := Cond.arrayOf_spec harr ht hcell
  have esz : cell.slots.size = N := by
    have e : cell.slots.size.toInt32 = Int32.ofNat N := (Value.int.inj hv).symm
    have e2 := congrArg Int32.toInt e
    have e3 : (Int32.ofNat cell.slots.size).toInt = (Int32.ofNat N).toInt := e2
    rw [Int32.toInt_ofNat_small hsz, Int32.toInt_ofNat_small hN] at e3
    omega
  refine ⟨t, ht, ⟨cell, hcell, hof, hkn, esz, fun j hj => ?_⟩, (Array.getElem?_eq_some_iff.mp hcell).1⟩
  obtain ⟨a, i, cell2, h1, h2, h3, h4, h5⟩ := Term.elem_spec (hel j hj)
  cases ht.symm.trans h1
  cases hat.symm.trans h3
  have hi : i = Int32.ofNat j := by
    have e : (Term.int (Int32.ofNat j)).eval args s none [] s = some (.int (Int32.ofNat j)) := rfl
    cases h2.symm.trans e
    rfl
  have hc : i.toNatClampNeg = j := by rw [hi]; exact Int32.toNatClampNeg_ofNat_of_lt (Nat.lt_trans hj hN)
  rw [hc] at h5
  exact h5
theorem jcl_in : ∀ (ci : Nat) (C : String) (T : u_T) (N : Nat), jCl[ci]? = some (C, T, N) → Cond.instantiable C N ∈ jTbl := by
  intro ci C T N h
  have hl : ci < 12 := (List.getElem?_eq_some_iff.mp h).1
  have c : ci = 0 ∨ ci = 1 ∨ ci = 2 ∨ ci = 3 ∨ ci = 4 ∨ ci = 5 ∨ ci = 6 ∨ ci = 7 ∨ ci = 8 ∨ ci = 9 ∨ ci = 10 ∨ ci = 11 := by omega
  rcases c with rfl | rfl | rfl | rfl | rfl | rfl | rfl | rfl | rfl | rfl | rfl | rfl <;> cases h
  · exact in_X0
  · exact in_X1
  · exact in_X2
  · exact in_X3
  · exact in_X4
  · exact in_X5
  · exact in_X6
  · exact in_X7
  · exact in_X8
  · exact in_X9
  · exact in_X10
  · exact in_X11
theorem prim_K {s : State} {args : Array Value} {ty : FieldType} (h : (Cond.arrayClass ty).before args s = true) (hp : ty = .int ∨ ty = .long ∨ ty = .boolean) : ∃ c : ClassId, ArrOfT s c ty ∧ va_RA s c ty := by
  obtain ⟨c, k, comp, h1, h2, h3⟩ := Cond.arrayClass_spec h
  refine ⟨c, fun n z => ⟨fun k h => (by cases h), k, h2, comp, h3⟩, ?_⟩
  rcases hp with rfl | rfl | rfl <;> exact h1
theorem obj_K {s : State} {args : Array Value} {C : String} (h : (Cond.arrayOver (.object C)).before args s = true) : ∃ c : ClassId, ArrOfT s c (.object C) ∧ va_RA s c (.object C) := by
  obtain ⟨comp, c, k, h1, -, h2, h3, h4⟩ := Cond.arrayOver_spec h
  exact ⟨c, fun n z => ⟨fun k h => (by cases h), k, h2, comp, h3⟩, k, comp, h2, h3, h1, h4⟩
theorem vk_S0 {len : List Nat} {byt : List (List Int32)} {aK aV : Nat → Nat} {A : Nat → Prop} {U : State} {H : Heap} (h : vk_S 1 len byt aK aV A U H) : vk_S 1 len byt (fun _ => aK 0) (fun _ => aV 0) A U H := by
  refine ⟨fun i hi => ?_, fun i j hi hj _ => by omega⟩
  have e : i = 0 := by omega
  subst e
  exact h.1 0 hi
theorem law_w {s : State} {b L : Nat} {xs : Nat → Int32} (hts : ∀ w ∈ lw_tbl, w.before #[Value.ref b] s = true) (hX : va_X b L xs s s.heap) (hb : b < s.heap.size) (hL : L ≤ 3584) (hg : gN.before #[Value.ref b] s = true) : ∃ w : jW, w.1 = s.heap.size ∧ w.2.1 (-2) = b ∧ va_K w.2.2.2.1 jCl (jtys w) s ∧ jX w s ∧ w.2.2.2.2 (-2) (-1) = L ∧ utI w.2.2.2.2 ∧ w.2.2.2.2 (-3) (-1) = 7 ∧ ∀ j, -2147483648 ≤ w.2.2.2.2 (-2) j ∧ w.2.2.2.2 (-2) j ≤ 2147483647 := by
  have hs := flat_of_before _ hg
  have hj : ∀ q ∈ jTbl, q.before #[Value.ref b] s = true := fun q hq => hts q (List.mem_filter.mp hq).1
  have hA : ∀ a : Nat, a < s.heap.size → ¬ (fun q : Nat => s.heap.size ≤ q) a := fun a h1 h2 => Nat.not_le.mpr h1 h2
  have at_ : ∀ (k : Nat) (c : Cond), (flatC gN)[k]? = some c → c.before #[Value.ref b] s = true := fun k c h => hs c (List.mem_of_getElem? h)
  -- UNTOLD
  obtain ⟨tU, eU, xU, bU⟩ := va_Xof (args := #[Value.ref b]) (tm := tUN) (N := 7) (f := fun j => Int32.ofInt (uT (j : Int))) (by decide) (at_ 10 _ (by decide +kernel)) (va_eqt (at_ 11 (Cond.eq (.length tUN) (.int 7)) (by decide +kernel))) (fun j hj7 => va_eqt (at_ (12 + j) _ (nf_un ⟨j, hj7⟩)))
  have zU := va_Zof (A := fun q : Nat => s.heap.size ≤ q) (hts (.laysStatic "SchoolRides$Text" "UNTOLD" "[I") (linT1 (List.mem_of_getElem? (i := 224) (by decide +kernel)))) (hts (.initialized "SchoolRides$Text") (linT1 (List.mem_of_getElem? (i := 10) (by decide +kernel)))) eU hA
  -- the String
  obtain ⟨aK, aV, vS, eK⟩ := vk_Sof (args := #[Value.ref b]) (s := s) (N := 1) (tm := fun _ => tST) (len := [176]) (byt := [wBy]) (A := fun q : Nat => s.heap.size ≤ q) (fun i hi => by rw [show i = 0 by omega]; decide) (fun i hi => at_ 43 _ (by decide +kernel)) (fun i hi => at_ 44 _ (by decide +kernel)) (fun i hi => at_ 45 _ (by decide +kernel)) (fun i hi => by rw [show i = 0 by omega]; exact at_ 46 _ (by decide +kernel)) (fun i hi j hj2 => by
    have e0 : i = 0 := by omega
    subst e0
    exact at_ (47 + j) _ (nf_el ⟨j, hj2⟩)) (fun i j hi hj2 hij => absurd (show i = j by omega) hij) hA
  have zC := va_Zof (A := fun q : Nat => s.heap.size ≤ q) (hts (.laysStatic "java/lang/String" "COMPACT_STRINGS" "Z") (linT1 (List.mem_of_getElem? (i := 51) (by decide +kernel)))) (hts (.initialized "java/lang/String") (linT1 (List.mem_of_getElem? (i := 4) (by decide +kernel)))) (va_eqt (at_ 4 (Cond.eq (.static "java/lang/String" "COMPACT_STRINGS" "Z") (.int 1)) (by decide +kernel))) hA
  have zB := va_Zqof (A := fun q : Nat => s.heap.size ≤ q) (hts (.laysStatic "jdk/internal/util/Preconditions" "SIOOBE_FORMATTER" "Ljava/util/function/BiFunction;") (linT1 (List.mem_of_getElem? (i := 59) (by decide +kernel)))) (hts (.initialized "jdk/internal/util/Preconditions") (linT1 (List.mem_of_getElem? (i := 6) (by decide +kernel)))) (at_ 5 (Cond.isRef (.static "jdk/internal/util/Preconditions" "SIOOBE_FORMATTER" "Ljava/util/function/BiFunction;")) (by decide +kernel)) hA
  have rK := vk_R.of (own := RX6) (k := 28) (tx := wTx) (hts (.stringRef RX6 28 wTx) (linT1 (List.mem_of_getElem? (i := 41) (by decide +kernel)))) (eK 0 (by decide))
  -- classes
  obtain ⟨D, hD⟩ : ∃ D : va_G, ∀ (c : Nat) (q : vw_C), jCl[c]? = some q → u_Kn s q.1 q.2.1 q.2.2 (D.1 c) (D.2 c) := by
    have h0 : ∀ c : Nat, ∃ q : ClassId × (Nat → Nat), ∀ r : vw_C, jCl[c]? = some r → u_Kn s r.1 r.2.1 r.2.2 q.1 q.2 := by
      intro c
      cases hc : jCl[c]? with
      | none => exact ⟨(0, fun _ => 0), fun r h => by cases h⟩
      | some r =>
        obtain ⟨cC, iS, h⟩ := u_known (n := r.2.2) hj (jcl_ok c r.1 r.2.1 r.2.2 hc).1 (hj _ (jcl_in c r.1 r.2.1 r.2.2 hc))
        exact ⟨(cC, iS), fun r' h' => by cases h'; exact h⟩
    obtain ⟨g, hg2⟩ := Classical.axiomOfChoice h0
    exact ⟨(fun c => (g c).1, fun c => (g c).2), fun c q h => hg2 c q h⟩
  obtain ⟨c0, p0⟩ := prim_K (ty := .int) (hj _ (jinT1 (List.mem_of_getElem? (i := 110) rfl) rfl)) (Or.inl rfl)
  obtain ⟨c1, p1⟩ := prim_K (ty := .long) (hj _ (jinT1 (List.mem_of_getElem? (i := 111) rfl) rfl)) (Or.inr (Or.inl rfl))
  obtain ⟨c2, p2⟩ := prim_K (ty := .boolean) (hj _ (jinT2 (List.mem_of_getElem? (i := 206) rfl) rfl)) (Or.inr (Or.inr rfl))
  have o3 : (Cond.arrayOver (.object RX8)).before #[Value.ref b] s = true := hts _ (linT1 (List.mem_of_getElem? (i := 169) (by decide +kernel)))
  have o4 : (Cond.arrayOver (.object RX3)).before #[Value.ref b] s = true := hts _ (linT2 (List.mem_of_getElem? (i := 135) (by decide +kernel)))
  obtain ⟨c3, p3⟩ := obj_K o3
  obtain ⟨c4, p4⟩ := obj_K o4
  -- what stands below
  have hi32 : ∀ x : Int32, -2147483648 ≤ x.toInt ∧ x.toInt ≤ 2147483647 := fun x => (j_ok32 x).1 rfl
  have fin : ∀ (tB : Nat) (xB : Int), (xB = -1 ∨ xB = -6) → va_Z "jdk/internal/util/Preconditions" "SIOOBE_FORMATTER" "Ljava/util/function/BiFunction;" (if xB = -1 then .null else .ref tB) (fun q : Nat => s.heap.size ≤ q) s s.heap → ∃ w : jW, w.1 = s.heap.size ∧ w.2.1 (-2) = b ∧ va_K w.2.2.2.1 jCl (jtys w) s ∧ jX w s ∧ w.2.2.2.2 (-2) (-1) = L ∧ utI w.2.2.2.2 ∧ w.2.2.2.2 (-3) (-1) = 7 ∧ ∀ j, -2147483648 ≤ w.2.2.2.2 (-2) j ∧ w.2.2.2.2 (-2) j ≤ 2147483647 := by
    intro tB xB hxB zF
    let ad : Int → Nat := fun p => if p = -2 then b else if p = -3 then tU else if p = -4 then aK 0 else if p = -5 then aV 0 else tB
    let ct : Int → Int → Int := fun p j => if p = -2 then (if j = -1 then (L : Int) else (xs j.toNat).toInt) else if p = -3 then (if j = -1 then 7 else if 0 ≤ j ∧ j < 7 then uT j else 0) else if p = -6 then xB else 0
    let cd : Nat → ClassId := fun k => match k with
      | 0 => c0
      | 1 => c1
      | 2 => c2
      | 3 => c3
      | _ => c4
    have eC2 : ct (-2) (-1) = L := rfl
    have eX2 : ∀ j, -2147483648 ≤ ct (-2) j ∧ ct (-2) j ≤ 2147483647 := by
      intro j
      show -2147483648 ≤ (if j = -1 then (L : Int) else (xs j.toNat).toInt) ∧ (if j = -1 then (L : Int) else (xs j.toNat).toInt) ≤ 2147483647
      split
      · omega
      · exact hi32 _
    have eX3 : ∀ j, -2147483648 ≤ ct (-3) j ∧ ct (-3) j ≤ 2147483647 := by
      intro j
      show -2147483648 ≤ (if j = -1 then (7 : Int) else if 0 ≤ j ∧ j < 7 then uT j else 0) ∧ (if j = -1 then (7 : Int) else if 0 ≤ j ∧ j < 7 then uT j else 0) ≤ 2147483647
      split
      · omega
      · split
        · rename_i h1 h2
          have := uT_in ⟨j.toNat, by omega⟩
          simp only [Int.toNat_of_nonneg h2.1] at this
          omega
        · omega
    refine ⟨(s.heap.size, ad, cd, D, ct), rfl, rfl, ⟨hD, fun k q hk => ?_⟩, ⟨Nat.le_refl _, ⟨hb, ?_, ⟨?_, ?_⟩, fun j => j_ok0 (eX2 j).1 (eX2 j).2⟩, ⟨bU, ?_, ⟨?_, ?_⟩, fun j => j_ok0 (eX3 j).1 (eX3 j).2⟩, ⟨zU, vk_S0 vS, zC, ?_, rK⟩, o3, o4, fun q hq => ?_⟩, rfl, fun i i0 i1 => ?_, rfl, eX2⟩
    · have hl : k < 5 := (List.getElem?_eq_some_iff.mp hk).1
      have c : k = 0 ∨ k = 1 ∨ k = 2 ∨ k = 3 ∨ k = 4 := by omega
      rcases c with rfl | rfl | rfl | rfl | rfl <;> cases hk
      · exact p0
      · exact p1
      · exact p2
      · exact p3
      · exact p4
    · have e : (fun j : Nat => Int32.ofInt (ct (-2) (j : Int))) = xs := by
        funext j
        show Int32.ofInt (if (j : Int) = -1 then (L : Int) else (xs ((j : Int).toNat)).toInt) = xs j
        rw [if_neg (by omega), Int.toNat_natCast, j_back]
      show va_X b (ct (-2) (-1)).toNat (fun j : Nat => Int32.ofInt (ct (-2) (j : Int))) s s.heap
      rw [e, eC2, Int.toNat_natCast]
      exact hX
    · show (0 : Int) ≤ L; omega
    · show (L : Int) ≤ 2147483647; omega
    · obtain ⟨scr, g1, g2, g3, g4, g5⟩ := xU
      refine ⟨scr, g1, g2, g3, g4, fun j hj7 => ?_⟩
      have hj7 : j < 7 := hj7
      rw [g5 j hj7]
      show some (Value.int (Int32.ofInt (uT (j : Int)))) = some (.int (Int32.ofInt (if (j : Int) = -1 then (7 : Int) else if 0 ≤ (j : Int) ∧ (j : Int) < 7 then uT (j : Int) else 0)))
      rw [if_neg (by omega), if_pos ⟨by omega, by omega⟩]
    · show (0 : Int) ≤ 7; decide
    · show (7 : Int) ≤ 2147483647; decide
    · have e : jcv (s.heap.size, ad, cd, D, ct) (2, xB) = (if xB = -1 then .null else .ref tB) := by
        rcases hxB with h | h
        · subst h; rfl
        · subst h; rfl
      show va_Z "jdk/internal/util/Preconditions" "SIOOBE_FORMATTER" "Ljava/util/function/BiFunction;" (jcv (s.heap.size, ad, cd, D, ct) (2, xB)) (fun q : Nat => s.heap.size ≤ q) s s.heap
      rw [e]
      exact zF
    · obtain ⟨_, _, _, _, rfl⟩ := jNest_is hq
      exact va_Nw.of rfl (hts _ (List.mem_filter.mp hq).1)
    · show (if i = -1 then (7 : Int) else if 0 ≤ i ∧ i < 7 then uT i else 0) = uT i
      rw [if_neg (by omega), if_pos ⟨i0, i1⟩]
  rcases zB with z | ⟨t, z⟩
  · exact fin 0 (-1) (Or.inl rfl) z
  · exact fin t (-6) (Or.inr rfl) z
