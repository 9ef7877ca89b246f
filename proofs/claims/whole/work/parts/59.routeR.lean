/-! the reference's routes -/
theorem nxF_lem {h : Int → Int} {k : Nat} (hp : ¬ sP h (k - 1) < 0) : nxF h k = some (rvF 6 (swp h (sP h (k - 1)) (sJ h (h (sP h (k - 1))) k)) (sP h (k - 1) + 1) ((k : Int) - 1)) := by
  unfold nxF
  rw [if_neg hp]
theorem sP_in (h : Int → Int) : ∀ n : Nat, -1 ≤ sP h n ∧ sP h n < n := by
  intro n
  induction n with
  | zero => simp only [sP]; omega
  | succ n ih =>
    simp only [sP]
    split <;> omega
theorem c_turnR {m : jM} {Q : Int → jM → Prop} {k a b : Int} {h : Int → Int} (k6 : k ≤ 6) (hh : ∀ i, 0 ≤ i → i < k → m 202 i = h i) (a0 : 0 ≤ a) (a1 : a < k) (b0 : 0 ≤ b) (b1 : b < k) (hQ : ∀ m', fr [202] m m' → (∀ i, 0 ≤ i → i < k → m' 202 i = swp h a b i) → Q 0 m') : ML iX11_turn [(2, 139), (0, a), (0, b)] m Q := by
  refine sX11_turn ⟨a0, by omega, b0, by omega, a0, by omega, b0, by omega, hQ _ (fr_up (fr_up fr_rf (by simp)) (by simp)) (fun i i0 i1 => ?_)⟩
  unfold swp
  rw [jup_self, jup_self, hh a a0 a1, hh b b0 b1]
  by_cases e : i = b
  · rw [if_pos e, if_pos e]
  · rw [if_neg e, if_neg e]
    by_cases e2 : i = a
    · rw [if_pos e2, if_pos e2]
    · rw [if_neg e2, if_neg e2, hh i i0 i1]
theorem c_reorders {m : jM} {Q : Int → jM → Prop} {k : Int} {h : Int → Int} (k0 : 1 ≤ k) (k6 : k ≤ 6) (hh : ∀ i, 0 ≤ i → i < k → m 202 i = h i) (hno : nxF h k.toNat = none → Q 0 m) (hQ : ∀ m' g, nxF h k.toNat = some g → fr [202] m m' → (∀ i, 0 ≤ i → i < k → m' 202 i = g i) → Q 1 m') : ML iX11_reorders [(2, 139), (0, k)] m Q := by
  refine sX11_reorders ?_
  rw [jw_id (x := k - 2) (by omega) (by omega)]
  -- the rest turned round
  have rev : ∀ (n : Nat) (a b : Int) (h' : Int → Int) (m' : jM), b - a ≤ n → 0 ≤ a → b < k → (a < b → 0 ≤ b) → fr [202] m m' → (∀ i, 0 ≤ i → i < k → m' 202 i = h' i) → nxF h k.toNat = some (rvF n h' a b) → GL iX11_reorders m' 78 [(2, 139), (9, 0), (9, 0), (9, 0), (0, a), (0, b)] [] Q := by
    intro n
    induction n with
    | zero =>
      intro a b h' m' hn a0 b1 hb hf hh' he
      exact sX11_reorders_78 ⟨fun _ => hQ m' _ he hf hh', fun z => absurd (by omega) z⟩
    | succ n ih =>
      intro a b h' m' hn a0 b1 hb hf hh' he
      simp only [rvF] at he
      refine sX11_reorders_78 ⟨fun z => ?_, fun z => ?_⟩
      · rw [if_neg (by omega)] at he
        exact hQ m' _ he hf hh'
      · rw [if_pos (by omega)] at he
        refine c_turnR k6 hh' a0 (by omega) (by omega) b1 (fun m2 f2 h2 => ?_)
        rw [jw_id (x := a + 1) (by omega) (by omega), jw_id (x := b + -1) (by omega) (by omega), show b + -1 = b - 1 by omega]
        exact ih (a + 1) (b - 1) _ m2 (by omega) (by omega) (by omega) (by omega) (fr_tr hf f2) h2 he
  -- the pivot is found
  have piv : ∀ i, 0 ≤ i → i < k - 1 → sP h (k - 1).toNat = i → GL iX11_reorders m 41 [(2, 139), (0, k), (0, i), (0, k - 1), (9, 0), (9, 0)] [] Q := by
    intro i i0 i1 hi
    have he := nxF_lem (h := h) (k := k.toNat) (by rw [show k.toNat - 1 = (k - 1).toNat by omega, hi]; omega)
    rw [show k.toNat - 1 = (k - 1).toNat by omega, hi] at he
    refine ldn (I := fun j (m' : jM) => i ≤ j ∧ j < k ∧ m' = m ∧ sJ h (h i) k.toNat = sJ h (h i) (j + 1).toNat) (G := fun j m' => GL iX11_reorders m' 41 [(2, 139), (0, k), (0, i), (0, j), (9, 0), (9, 0)] [] Q) ?_ ?_ (k - 1) m ⟨by omega, by omega, rfl, by rw [show k - 1 + 1 = k by omega]⟩
    · rintro j m' j0 ⟨j1, j2, rfl, e⟩ K
      have nx : sJ h (h i) (j + 1).toNat = if h j < h i then sJ h (h i) (j - 1 + 1).toNat else j := by
        rw [show (j + 1).toNat = (j - 1 + 1).toNat + 1 by omega]
        simp only [sJ]
        rw [show (((j - 1 + 1).toNat : Nat) : Int) = j by omega]
      refine sX11_reorders_41 ?_
      rw [hh j j0 j2, hh i i0 (by omega), jw_id (x := i + 1) (by omega) (by omega), jw_id (x := k - 1) (by omega) (by omega), jw_id (x := j + -1) (by omega) (by omega), show j + -1 = j - 1 by omega]
      refine ⟨j0, by omega, i0, by omega, fun z => ?_, fun z => K m' ⟨?_, by omega, rfl, by rw [e, nx, if_pos (by omega)]⟩⟩
      · refine c_turnR k6 hh i0 (by omega) j0 j2 (fun m2 f2 h2 => rev 6 (i + 1) (k - 1) _ m2 (by omega) (by omega) (by omega) (by omega) f2 h2 ?_)
        rw [he, e, nx, if_neg (by omega), show ((k.toNat : Nat) : Int) - 1 = k - 1 by omega]
      · have : j ≠ i := by
          intro y
          rw [y] at z
          exact z (Int.le_refl _)
        omega
    · rintro j m' j0 ⟨j1, j2, rfl, e⟩
      omega
  refine ldn (I := fun i (m' : jM) => -1 ≤ i ∧ i < k - 1 ∧ m' = m ∧ sP h (k - 1).toNat = sP h (i + 1).toNat) (G := fun i m' => GL iX11_reorders m' 4 [(2, 139), (0, k), (0, i), (9, 0), (9, 0), (9, 0)] [] Q) ?_ ?_ (k - 2) m ⟨by omega, by omega, rfl, by rw [show k - 2 + 1 = k - 1 by omega]⟩
  · rintro i m' i0 ⟨-, i1, rfl, e⟩ K
    have nx : sP h (i + 1).toNat = if h (i + 1) < h i then sP h (i - 1 + 1).toNat else i := by
      rw [show (i + 1).toNat = (i - 1 + 1).toNat + 1 by omega]
      simp only [sP]
      rw [show (((i - 1 + 1).toNat : Nat) : Int) = i by omega]
    refine sX11_reorders_4 ?_
    rw [jw_id (x := i + 1) (by omega) (by omega), jw_id (x := k - 1) (by omega) (by omega), jw_id (x := i + -1) (by omega) (by omega), hh i i0 (by omega), hh (i + 1) (by omega) (by omega), show i + -1 = i - 1 by omega]
    refine ⟨fun z => absurd z (by omega), fun _ => ⟨i0, by omega, by omega, by omega, fun z => ⟨fun _ => piv i i0 i1 (by rw [e, nx, if_neg (by omega)]), fun y => absurd i0 y⟩, fun z => K m' ⟨by omega, by omega, rfl, by rw [e, nx, if_pos (by omega)]⟩⟩⟩
  · rintro i m' i0 ⟨i1, i2, rfl, e⟩
    obtain rfl : i = -1 := by omega
    refine sX11_reorders_4 ⟨fun _ => ⟨fun z => absurd z (by decide), fun _ => hno ?_⟩, fun z => absurd (by decide) z⟩
    have e2 : sP h (k - 1).toNat = -1 := e
    unfold nxF
    rw [show k.toNat - 1 = (k - 1).toNat by omega, e2, if_pos (by decide)]
theorem c_placeOfStop {V m : jM} {Q : Int → jM → Prop} {k a : Int} (hr : rG V k m) (a0 : 0 ≤ a) (a1 : a < 6) (hQ : Q (V 8 a) m) : ML iX11_placeOfStop [(2, 139), (0, a)] m Q := by
  have rt := hr.2.2.2.2.1
  have r0 := rt.1
  refine sX11_placeOfStop ?_
  rw [hr.1.1, jw_id (x := 6 * k) (by omega) (by omega), jw_id (x := 6 * k + a) (by omega) (by omega), rt.2.2.2.1 a a0 a1]
  exact ⟨by omega, by omega, hQ⟩
theorem c_placeOfSchool {V m : jM} {Q : Int → jM → Prop} {k a : Int} (hr : rG V k m) (a0 : 0 ≤ a) (a1 : a < 3) (hQ : Q (V 6 a) m) : ML iX11_placeOfSchool [(2, 139), (0, a)] m Q := by
  have rt := hr.2.2.2.2.1
  have r0 := rt.1
  refine sX11_placeOfSchool ?_
  rw [hr.1.1, jw_id (x := 3 * k) (by omega) (by omega), jw_id (x := 3 * k + a) (by omega) (by omega), (rt.2.2.1 a a0 a1).1]
  exact ⟨by omega, by omega, hQ⟩
theorem fnL_app (p t : List Int) (j : Int) : fnL (p ++ j :: t) p.length = j := by
  unfold fnL
  rw [if_pos (by omega), Int.toNat_natCast, List.getD_eq_getElem?_getD, List.getElem?_append_right (Nat.le_refl _), Nat.sub_self]
  rfl
/-- a number, or none: encoded -/
def dE (v : Int) : Int := if v < 268435456 then v else -1
theorem c_driven {V m : jM} {Q : Int → jM → Prop} {k s : Int} {l : List Int} (hk : vKt V) (hr : rG V k m) (hs : m 139 75 = s) (s0 : 0 ≤ s) (s1 : s < V 0 2) (hl : ∀ j ∈ l, 0 ≤ j ∧ j < V 0 3) (hne : l ≠ []) (l6 : l.length ≤ 6) (hh : ∀ i : Int, 0 ≤ i → i < (l.length : Int) → m 202 i = fnL l i) (hQ : Q (dE (cE V s (-1) l)) m) : ML iX11_driven [(2, 139), (0, (l.length : Int))] m Q := by
  have hN := hk.1
  refine sX11_driven ?_
  have key : ∀ (t p : List Int) (sum : Int), l = p ++ t → 0 ≤ sum → sum ≤ 1089 * p.length → cE V s (-1) l = (if t = [] then sum else sum + cE V s (-1) t) → GL iX11_driven m 4 [(2, 139), (0, (l.length : Int)), (0, sum), (0, (p.length : Int)), (9, 0), (9, 0)] [] Q := by
    intro t
    induction t with
    | nil =>
      intro p sum hp s2 s3 he
      rw [List.append_nil] at hp
      rw [if_pos rfl] at he
      rw [he] at hQ
      unfold dE at hQ
      rw [if_pos (by rw [hp] at l6; omega)] at hQ
      rw [← hp]
      exact sX11_driven_4 ⟨fun _ => hQ, fun z => absurd (Int.le_refl _) z⟩
    | cons j t ih =>
      intro p sum hp s2 s3 he
      rw [if_neg (by simp)] at he
      have hlen : l.length = p.length + t.length + 1 := by rw [hp, List.length_append, List.length_cons]; omega
      have hj := hl j (by rw [hp]; simp)
      have h1 : m 202 (p.length : Int) = j := by rw [hh _ (by omega) (by omega), hp]; exact fnL_app p t j
      have hc : cE V s (-1) (j :: t) = cE V s j t := by
        simp only [cE]
        unfold rL
        rw [if_pos rfl, Int.zero_add]
      have pj := hk.2.2.2.1 j hj.1 hj.2
      refine sX11_driven_4 ?_
      rw [jw_id (x := (p.length : Int) + 1) (by omega) (by omega), hs]
      refine ⟨fun z => absurd z (by omega), fun _ => ⟨fun z => ?_, fun z => ?_⟩⟩
      · have ht : t = [] := List.length_eq_zero_iff.mp (by omega)
        refine c_placeOfSchool hr s0 (by omega) ⟨by omega, by omega, ?_⟩
        rw [h1]
        have ps := hk.2.2.1 s s0 s1
        refine c_placeOfStop hr hj.1 (by omega) (c_leastV hr (by decide) (by decide) pj.1 (by omega) ps.1 (by omega) ?_)
        have d1 := vD_ge hk 2 (V 8 j) (V 6 s)
        have d2 := (vD_le hk 2 (V 8 j) (V 6 s)).2 rfl
        rw [jw_id (x := sum + vD V 2 (V 8 j) (V 6 s)) (by omega) (by omega)]
        rw [hc, ht] at he
        simp only [cE] at he
        unfold rS enc at he
        refine ⟨fun y => ?_, fun y => ?_⟩
        · rw [if_neg (by omega)] at he
          have := ih (p ++ [j]) (sum + vD V 2 (V 8 j) (V 6 s)) (by rw [hp]; simp) (by omega) (by rw [List.length_append]; simp only [List.length_cons, List.length_nil]; omega) (by rw [if_pos ht]; exact he)
          rw [List.length_append] at this
          exact this
        · rw [if_pos (by omega)] at he
          unfold dE at hQ
          rw [if_neg (by omega)] at hQ
          exact hQ
      · match t, ih, hp, hlen, hc with
        | [], _, _, hlen, _ => simp only [List.length_nil] at hlen; omega
        | j2 :: t2, ih, hp, hlen, hc =>
          have hj2 := hl j2 (by rw [hp]; simp)
          have pj2 := hk.2.2.2.1 j2 hj2.1 hj2.2
          have h2 : m 202 ((p.length : Int) + 1) = j2 := by
            have := fnL_app (p ++ [j]) t2 j2
            rw [List.length_append] at this
            rw [hh ((p.length : Int) + 1) (by omega) (by omega), hp]
            simpa using this
          rw [h2]
          refine ⟨by omega, by omega, c_placeOfStop hr hj2.1 (by omega) ⟨by omega, by omega, ?_⟩⟩
          rw [h1]
          refine c_placeOfStop hr hj.1 (by omega) (c_leastV hr (by decide) (by decide) pj.1 (by omega) pj2.1 (by omega) ?_)
          have d1 := vD_ge hk 2 (V 8 j) (V 8 j2)
          have d2 := (vD_le hk 2 (V 8 j) (V 8 j2)).2 rfl
          rw [jw_id (x := sum + vD V 2 (V 8 j) (V 8 j2)) (by omega) (by omega)]
          have nn := cE_nn hk s t2 j2
          rw [hc] at he
          have hc2 : cE V s (-1) (j2 :: t2) = cE V s j2 t2 := by
            simp only [cE]
            unfold rL
            rw [if_pos rfl, Int.zero_add]
          simp only [cE] at he
          unfold rL enc at he
          rw [if_neg (show ¬ j = -1 by omega)] at he
          refine ⟨fun y => ?_, fun y => ?_⟩
          · rw [if_neg (by omega)] at he
            have := ih (p ++ [j]) (sum + vD V 2 (V 8 j) (V 8 j2)) (by rw [hp]; simp) (by omega) (by rw [List.length_append]; simp only [List.length_cons, List.length_nil]; omega) (by rw [if_neg (by simp), hc2]; omega)
            rw [List.length_append] at this
            exact this
          · rw [if_pos (by omega)] at he
            unfold dE at hQ
            rw [if_neg (by omega)] at hQ
            exact hQ
  have := key l [] 0 rfl (by decide) (by decide) (by rw [if_neg hne]; omega)
  exact this
