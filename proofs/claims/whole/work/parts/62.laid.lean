/-! the reference's routes of a set; which are good -/
theorem and20 {a b : Int} (a0 : 0 ≤ a) (a1 : a < 1048576) (b0 : 0 ≤ b) (b1 : b < 1048576) : jand a b ≠ 0 ↔ ∃ i, 0 ≤ i ∧ i < 20 ∧ tb a i = true ∧ tb b i = true := by
  constructor
  · intro h
    have hn := jand_nn (a := a) (b := b) (by omega) (by omega)
    have hi := (jand_in a b).2
    obtain ⟨i, i0, i1, hi⟩ := tb_some hn hi h
    rw [tb_and (by omega) (by omega) i0 (by omega), Bool.and_eq_true] at hi
    refine ⟨i, i0, ?_, hi⟩
    apply Classical.byContradiction
    intro z
    rw [tb_lt (k := 20) a0 (by simpa using a1) (by decide) (by omega)] at hi
    exact absurd hi.1 (by decide)
  · rintro ⟨i, i0, i1, h1, h2⟩ z
    have := tb_and (a := a) (b := b) (i := i) (by omega) (by omega) i0 (by omega)
    rw [z, tb_zero, h1, h2] at this
    exact absurd this (by decide)
theorem jor20 {a b : Int} (a0 : 0 ≤ a) (a1 : a < 1048576) (b0 : 0 ≤ b) (b1 : b < 1048576) : (0 ≤ jor a b ∧ jor a b < 1048576) ∧ ∀ i, 0 ≤ i → i < 20 → (tb (jor a b) i = true ↔ tb a i = true ∨ tb b i = true) := by
  refine ⟨⟨jor_nn (by omega) (by omega), jor_lt (k := 20) ⟨a0, a1⟩ ⟨b0, b1⟩ (by decide)⟩, fun i i0 i1 => ?_⟩
  rw [tb_or (by omega) (by omega) i0 (by omega), Bool.or_eq_true]
theorem nz20 {a : Int} (a0 : 0 ≤ a) (a1 : a < 1048576) : a ≠ 0 ↔ ∃ i, 0 ≤ i ∧ i < 20 ∧ tb a i = true := by
  constructor
  · intro h
    obtain ⟨i, i0, i1, hi⟩ := tb_some a0 (by omega) h
    refine ⟨i, i0, ?_, hi⟩
    apply Classical.byContradiction
    intro z
    rw [tb_lt (k := 20) a0 (by simpa using a1) (by decide) (by omega)] at hi
    exact absurd hi (by decide)
  · rintro ⟨i, i0, i1, h⟩ z
    rw [z, tb_zero] at h
    exact absurd h (by decide)
theorem rAt_iff {V m : jM} {s p : Int} (h7 : 0 ≤ V 0 7 ∧ V 0 7 ≤ 20) (hS : rSt V s m) (p0 : 0 ≤ p) (p1 : p < 6) : m 195 p ≠ 0 ↔ rdN V s p ≠ 0 := by
  have q := hS.2.1 p p0 p1
  rw [nz20 q.1.1 q.1.2, rdN_iff h7.1]
  constructor
  · rintro ⟨c, c0, c1, h⟩; exact ⟨c, (q.2.2 c c0 c1).mp h⟩
  · rintro ⟨c, h⟩; exact ⟨c, h.1, by have := h.2.1; omega, (q.2.2 c h.1 (by have := h.2.1; omega)).mpr h⟩
theorem rSt_fr {V m m' : jM} {s : Int} (h : rSt V s m) (h0 : m' 139 75 = m 139 75) (h1 : m' 195 = m 195) (h2 : m' 196 = m 196) (h3 : m' 201 = m 201) : rSt V s m' := by
  unfold rSt at *
  rw [h0, h1, h2, h3]
  exact h
/-- what laid leaves of a set -/
def rlO (V : jM) (s x : Int) (m : jM) : Prop := (sub6 x (srv V s) → m 197 x = dE (bh V s x (-1)) ∧ (bh V s x (-1) < 268435456 → ∀ i, 0 ≤ i → i < cnt x 6 → m 198 (6 * x + i) = fnL (rR V s 6 x (-1)) i)) ∧ (¬ sub6 x (srv V s) → m 197 x = -1)
theorem okL_in {s : Int} {k : Nat} {x : List Int} (h : okL s k x = true) : x.length = k ∧ ∀ j ∈ x, 0 ≤ j ∧ j < 6 ∧ tb s j = true := by
  unfold okL at h
  simp only [Bool.and_eq_true, beq_iff_eq, List.all_eq_true, decide_eq_true_eq] at h
  exact ⟨h.1, fun j hj => ⟨(h.2 j hj).1.1, (h.2 j hj).1.2, (h.2 j hj).2⟩⟩
theorem eqF_in {k : Nat} {g h : Int → Int} (e : eqF k g h = true) {i : Int} (i0 : 0 ≤ i) (i1 : i < k) : g i = h i := by
  unfold eqF at e
  have := List.all_eq_true.mp e i.toNat (List.mem_range.mpr (by omega))
  rw [Int.toNat_of_nonneg i0] at this
  simpa using this
theorem bl_in {x : Int} : ∀ n : Nat, ∀ j ∈ bl x n, 0 ≤ j ∧ j < n ∧ tb x j = true := by
  intro n
  induction n with
  | zero => intro j hj; simp [bl] at hj
  | succ n ih =>
    intro j hj
    simp only [bl] at hj
    split at hj
    · rw [List.mem_append] at hj
      rcases hj with z | z
      · have := ih j z
        exact ⟨this.1, by omega, this.2.2⟩
      · simp only [List.mem_singleton] at z
        rw [z]
        exact ⟨by omega, by omega, by assumption⟩
    · have := ih j hj
      exact ⟨this.1, by omega, this.2.2⟩
theorem bl_len {x : Int} : ∀ n : Nat, (bl x n).length ≤ n := by
  intro n
  induction n with
  | zero => simp [bl]
  | succ n ih =>
    simp only [bl]
    split
    · rw [List.length_append, List.length_singleton]; omega
    · omega
theorem fnL_l {p : List Int} {j i : Int} (i0 : 0 ≤ i) (i1 : i < (p.length : Int)) : fnL (p ++ [j]) i = fnL p i := by
  unfold fnL
  rw [if_pos i0, if_pos i0, List.getD_eq_getElem?_getD, List.getD_eq_getElem?_getD, List.getElem?_append_left (by omega)]
theorem c_driven2 {V m : jM} {Q : Int → jM → Prop} {k s n : Int} {l : List Int} (hk : vKt V) (hr : rG V k m) (hs : m 139 75 = s) (s0 : 0 ≤ s) (s1 : s < V 0 2) (hl : ∀ j ∈ l, 0 ≤ j ∧ j < V 0 3) (hne : l ≠ []) (l6 : l.length ≤ 6) (hh : ∀ i : Int, 0 ≤ i → i < (l.length : Int) → m 202 i = fnL l i) (hn : (l.length : Int) = n) (hQ : Q (dE (cE V s (-1) l)) m) : ML iX11_driven [(2, 139), (0, n)] m Q := by
  subst hn
  exact c_driven hk hr hs s0 s1 hl hne l6 hh hQ
theorem c_laid {V m : jM} {Q : Int → jM → Prop} {k s x : Int} (hk : vKt V) (h7 : 0 ≤ V 0 7 ∧ V 0 7 ≤ 20) (hG : rG V k m) (hS : rSt V s m) (s0 : 0 ≤ s) (s1 : s < V 0 2) (x0 : 0 < x) (x1 : x < 2 ^ (V 0 3).toNat) (hQ : ∀ m', frx [197, 198, 202] [] m m' → (∀ y, y ≠ x → m' 197 y = m 197 y) → (∀ y, y < 6 * x ∨ 6 * x + 6 ≤ y → m' 198 y = m 198 y) → rlO V s x m' → Q 0 m') : ML iX11_laid [(2, 139), (0, x)] m Q := by
  have hN := hk.1
  have so := srv_ok hk s
  have e6 : (2 : Int) ^ (V 0 3).toNat ≤ 2 ^ 6 := p2le (by omega)
  have e64 : (2 : Int) ^ 6 = 64 := by decide
  have x64 : x < 64 := by omega
  have xb : ∀ p, 0 ≤ p → tb x p = true → p < V 0 3 := by
    intro p p0 h
    apply Classical.byContradiction
    intro z
    rw [tb_lt (k := V 0 3) (by omega) x1 (by omega) (by omega)] at h
    exact absurd h (by decide)
  have pc := pl_chk ⟨x.toNat, by omega⟩
  simp only [Int.toNat_of_nonneg (show 0 ≤ x by omega)] at pc
  obtain ⟨pc1, pc2, pc3⟩ := pc
  generalize hkn : (bl x 6).length = kn at *
  have kn6 : kn ≤ 6 := by rw [← hkn]; exact bl_len 6
  have kn1 : 1 ≤ kn := by
    apply Classical.byContradiction
    intro z
    have := cnt_0 (x := x) (by omega) x64 (by omega)
    omega
  refine sX11_laid ⟨by omega, x64, ?_⟩
  -- the loop over all orders
  have key : ∀ (ls : List (List Int)) (m1 : jM) (a : Int × List Int), chk x kn ls = true → (∀ y, ls.head? = some y → ∀ i : Int, 0 ≤ i → i < (kn : Int) → m1 202 i = fnL y i) → frx [197, 198, 202] [] m m1 → (∀ y, y ≠ x → m1 197 y = m 197 y) → (∀ y, y < 6 * x ∨ 6 * x + 6 ≤ y → m1 198 y = m 198 y) → sub6 x (srv V s) → a.1 ≤ 268435456 → 0 ≤ a.1 → m1 197 x = dE a.1 → (a.1 < 268435456 → ∀ i, 0 ≤ i → i < (kn : Int) → m1 198 (6 * x + i) = fnL a.2 i) → ls.foldl (stp (fun t => 0 + cE V s (-1) t) id) a = (if 0 + bh V s x (-1) < 268435456 then (0 + bh V s x (-1), rR V s 6 x (-1)) else (268435456, [])) → GL iX11_laid m1 56 [(2, 139), (0, x), (0, (kn : Int)), (0, 1), (9, 0), (9, 0)] [] Q := by
    intro ls
    induction ls with
    | nil => intro m1 a h; simp [chk] at h
    | cons y r ih =>
      intro m1 a hc hh f1 o1 o2 hsub a1 a0 ea er hfin
      have hh := hh y rfl
      have hok : okL x kn y = true := by
        match r, hc with
        | [], hc => simp only [chk, Bool.and_eq_true] at hc; exact hc.1
        | _ :: _, hc => simp only [chk, Bool.and_eq_true] at hc; exact hc.1.1
      obtain ⟨ly, by_⟩ := okL_in hok
      have g1 : rG V k m1 := rG_fr hG (f1 139 69 (by decide) (by decide)) (f1 139 12 (by decide) (by decide)) (f1 139 44 (by decide) (by decide)) (f1 139 50 (by decide) (by decide)) (agr_of f1 (by decide))
      have hs1 : m1 139 75 = s := by rw [f1 139 75 (by decide) (by decide)]; exact hS.1
      -- behind an order: the next one
      have next : ∀ (m2 : jM) (a2 : Int × List Int), (∀ i : Int, 0 ≤ i → i < (kn : Int) → m2 202 i = fnL y i) → frx [197, 198, 202] [] m m2 → (∀ y, y ≠ x → m2 197 y = m 197 y) → (∀ y, y < 6 * x ∨ 6 * x + 6 ≤ y → m2 198 y = m 198 y) → a2.1 ≤ 268435456 → 0 ≤ a2.1 → m2 197 x = dE a2.1 → (a2.1 < 268435456 → ∀ i, 0 ≤ i → i < (kn : Int) → m2 198 (6 * x + i) = fnL a2.2 i) → a2 = stp (fun t => 0 + cE V s (-1) t) id a y → ML iX11_reorders [(2, 139), (0, (kn : Int))] m2 (fun r3 m4 => GL iX11_laid m4 56 [(2, 139), (0, x), (0, (kn : Int)), (0, r3), (9, 0), (9, 0)] [] Q) := by
        intro m2 a2 hh2 f2 p1 p2 b1 b0 eb er2 e2
        refine c_reorders (by omega) (by omega) hh2 (fun hn => sX11_laid_56 ⟨fun _ => ?_, fun z => absurd rfl z⟩) (fun m3 g hg f3 hh3 => ?_)
        · rw [Int.toNat_natCast] at hn
          have hr : r = [] := by
            match r, hc with
            | [], _ => rfl
            | _ :: _, hc =>
              simp only [chk, Bool.and_eq_true] at hc
              rw [hn] at hc
              have := hc.1.2
              simp at this
          rw [hr] at hfin
          simp only [List.foldl] at hfin
          rw [← e2] at hfin
          refine hQ m2 f2 p1 p2 ⟨fun _ => ?_, fun z => absurd hsub z⟩
          rw [Int.zero_add] at hfin
          by_cases q : bh V s x (-1) < 268435456
          · rw [if_pos q] at hfin
            have h1 : a2.1 = bh V s x (-1) := by rw [hfin]
            have h2 : a2.2 = rR V s 6 x (-1) := by rw [hfin]
            rw [h1, h2] at er2
            rw [h1] at eb
            exact ⟨eb, fun q i i0 i1 => er2 q i i0 (by omega)⟩
          · rw [if_neg q] at hfin
            have h1 : a2.1 = 268435456 := by rw [hfin]
            rw [h1] at eb
            refine ⟨?_, fun w => absurd w q⟩
            rw [eb]
            unfold dE
            rw [if_neg (by decide), if_neg q]
        · rw [Int.toNat_natCast] at hg
          match r, ih, hc, hfin with
          | [], _, hc, _ =>
            simp only [chk, Bool.and_eq_true] at hc
            rw [hg] at hc
            have := hc.2
            simp at this
          | y2 :: r2, ih, hc, hfin =>
            simp only [chk, Bool.and_eq_true] at hc
            rw [hg] at hc
            simp only [List.foldl] at hfin
            rw [← e2] at hfin
            have r3 : ∀ p, p ≠ 202 → m3 p = m2 p := fun p hp => f3 p (by simp [hp])
            refine ih m3 a2 hc.2 (fun y' hy' i i0 i1 => ?_) (frx_tr f2 (frx_mono (frx_fr (K := []) f3) (by decide) (by decide))) (fun z hz => by rw [r3 197 (by decide)]; exact p1 z hz) (fun z hz => by rw [r3 198 (by decide)]; exact p2 z hz) hsub b1 b0 (by rw [r3 197 (by decide)]; exact eb) (fun q i i0 i1 => by rw [r3 198 (by decide)]; exact er2 q i i0 i1) hfin
            cases hy'
            rw [hh3 i i0 i1]
            exact eqF_in hc.1.2 i0 i1
      have cn := cE_nn hk s y (-1)
      refine sX11_laid_56 ⟨fun z => absurd z (by decide), fun _ => ?_⟩
      refine c_driven2 hk g1 hs1 s0 s1 (fun j hj => by have := by_ j hj; exact ⟨this.1, xb j this.1 this.2.2⟩) (by intro z; rw [z] at ly; simp only [List.length_nil] at ly; omega) (by omega) (fun i i0 i1 => hh i i0 (by omega)) (by rw [ly]) ?_
      -- no better one
      have noup : ¬ cE V s (-1) y < a.1 → ML iX11_reorders [(2, 139), (0, (kn : Int))] m1 (fun r11 m12 => GL iX11_laid m12 56 [(2, 139), (0, x), (0, (kn : Int)), (0, r11), (9, 0), (9, 0)] [] Q) := by
        intro hn
        refine next m1 a hh f1 o1 o2 a1 a0 ea er ?_
        exact (if_neg (show ¬ (0 + cE V s (-1) y < a.1) by omega)).symm
      -- a better one
      have up : cE V s (-1) y < a.1 → GL iX11_laid (jup m1 197 x (cE V s (-1) y)) 103 [(2, 139), (0, x), (0, (kn : Int)), (9, 0), (9, 0), (0, 0)] [] Q := by
        intro hlt
        refine lup (n := (kn : Int)) (I := fun i m2 => 0 ≤ i ∧ i ≤ (kn : Int) ∧ frx [197, 198, 202] [] m m2 ∧ (∀ y, y ≠ x → m2 197 y = m 197 y) ∧ (∀ y, y < 6 * x ∨ 6 * x + 6 ≤ y → m2 198 y = m 198 y) ∧ m2 197 x = cE V s (-1) y ∧ m2 202 = m1 202 ∧ ∀ j, 0 ≤ j → j < i → m2 198 (6 * x + j) = fnL y j) (G := fun i m2 => GL iX11_laid m2 103 [(2, 139), (0, x), (0, (kn : Int)), (9, 0), (9, 0), (0, i)] [] Q) ?_ ?_ 0 _ ⟨by decide, by omega, frx_upA f1 (by decide), fun z hz => by rw [jup_self, if_neg hz]; exact o1 z hz, fun z hz => by rw [jup_ne (by decide)]; exact o2 z hz, jup_s, rfl, fun j j0 j1 => by omega⟩
        · rintro i m2 hi ⟨i0, -, f2, p1, p2, e1, e2, e3⟩ K
          refine sX11_laid_103 ?_
          rw [jw_id (x := 6 * x) (by omega) (by omega), jw_id (x := 6 * x + i) (by omega) (by omega), jw_id (x := i + 1) (by omega) (by omega), e2, hh i i0 hi]
          refine ⟨fun z => absurd z (by omega), fun _ => ⟨i0, by omega, by omega, by omega, K _ ⟨by omega, by omega, frx_upA f2 (by decide), fun z hz => by rw [jup_ne (by decide)]; exact p1 z hz, fun z hz => by rw [jup_self, if_neg (by omega)]; exact p2 z hz, by rw [jup_ne (by decide)]; exact e1, by rw [jup_ne (by decide)]; exact e2, fun j j0 j1 => ?_⟩⟩⟩
          rw [jup_self]
          by_cases e : j = i
          · rw [if_pos (by omega), e]
          · rw [if_neg (by omega)]; exact e3 j j0 (by omega)
        · rintro i m2 hi ⟨i0, i1, f2, p1, p2, e1, e2, e3⟩
          obtain rfl : i = (kn : Int) := by omega
          refine sX11_laid_103 ⟨fun _ => next m2 (0 + cE V s (-1) y, y) (fun i i0 i1 => by rw [e2]; exact hh i i0 i1) f2 p1 p2 (by simp only; omega) (by simp only; omega) ?_ (fun _ i i0 i1 => e3 i i0 i1) ?_, fun z => absurd (Int.le_refl _) z⟩
          · rw [e1]
            unfold dE
            simp only
            rw [if_pos (by omega), Int.zero_add]
          · exact (if_pos (show (0 + cE V s (-1) y < a.1) by omega)).symm
      have hdE : ∀ v : Int, 0 ≤ v → (dE v < 0 ↔ ¬ v < 268435456) := by
        intro v v0
        unfold dE
        split <;> omega
      have hdE2 : ∀ v : Int, v < 268435456 → dE v = v := by
        intro v hv
        unfold dE
        rw [if_pos hv]
      refine ⟨fun z => noup (by rw [hdE _ cn] at z; omega), fun z => ⟨by omega, x64, fun z2 => ⟨by omega, x64, ?_⟩, fun z2 => ⟨by omega, x64, fun z3 => noup ?_, fun z3 => ⟨by omega, x64, ?_⟩⟩⟩⟩
      · rw [hdE _ cn] at z
        rw [ea, hdE _ a0] at z2
        rw [hdE2 _ (by omega)]
        exact up (by omega)
      · rw [hdE _ cn] at z
        rw [ea, hdE _ a0] at z2
        rw [ea, hdE2 _ (by omega), hdE2 _ (by omega)] at z3
        omega
      · rw [hdE _ cn] at z
        rw [ea, hdE _ a0] at z2
        rw [ea, hdE2 _ (by omega), hdE2 _ (by omega)] at z3
        rw [hdE2 _ (by omega)]
        exact up (by omega)
  -- the first order
  refine lup2 (n := 6) (I := fun i m1 (c : Int) => 0 ≤ i ∧ i ≤ 6 ∧ frx [197, 198, 202] [] m m1 ∧ (∀ y, y ≠ x → m1 197 y = m 197 y) ∧ m1 197 x = -1 ∧ m1 198 = m 198 ∧ c = ((bl x i.toNat).length : Int) ∧ (∀ j : Int, 0 ≤ j → j < c → m1 202 j = fnL (bl x i.toNat) j) ∧ ∀ p, 0 ≤ p → p < i → tb x p = true → tb (srv V s) p = true) (G := fun i m1 c => GL iX11_laid m1 11 [(2, 139), (0, x), (0, c), (0, i), (9, 0), (9, 0)] [] Q) ?_ ?_ 0 _ 0 ⟨by decide, by decide, frx_upA frx_rf (by decide), fun y hy => by rw [jup_self, if_neg hy], jup_s, rfl, rfl, fun j j0 j1 => by omega, fun p p0 p1 => by omega⟩
  · rintro i m1 c hi ⟨i0, -, f1, o1, e1, e2, rfl, hh, hsv⟩ K
    have bn : bl x (i + 1).toNat = if tb x i = true then bl x i.toNat ++ [i] else bl x i.toNat := by
      rw [show (i + 1).toNat = i.toNat + 1 by omega]
      simp only [bl]
      rw [Int.toNat_of_nonneg i0]
    have bln := bl_len (x := x) i.toNat
    have r1 : m1 195 = m 195 := frx_row f1 195 (by decide) (by decide)
    have ra := rAt_iff h7 hS i0 hi
    refine sX11_laid_11 ?_
    rw [jshr_bit (by omega) i0 (by omega), r1, jw_id (x := i + 1) (by omega) (by omega), jw_id (x := ((bl x i.toNat).length : Int) + 1) (by omega) (by omega)]
    refine ⟨fun z => absurd z (by omega), fun _ => ⟨fun z => ?_, fun z => ?_⟩⟩
    · have hb : tb x i = true := by
        apply Classical.byContradiction
        intro w
        rw [if_neg w] at z
        exact z rfl
      refine ⟨i0, hi, fun z2 => ⟨by omega, by omega, K _ _ ⟨by omega, by omega, frx_upA f1 (by decide), o1, e1, e2, ?_, fun j j0 j1 => ?_, fun p p0 p1 hp => ?_⟩⟩, fun z2 => hQ m1 f1 o1 (fun y _ => by rw [e2]) ⟨fun w => ?_, fun _ => e1⟩⟩
      · rw [bn, if_pos hb, List.length_append, List.length_singleton]; omega
      · rw [jup_self, bn, if_pos hb]
        by_cases e : j = ((bl x i.toNat).length : Int)
        · rw [if_pos e, e]
          exact (fnL_app (bl x i.toNat) [] i).symm
        · rw [if_neg e, hh j j0 (by omega), fnL_l j0 (by omega)]
      · by_cases e : p = i
        · rw [e]
          exact (so.2.2.2 i i0 (by omega)).mpr ⟨xb i i0 hb, ra.mp z2⟩
        · exact hsv p p0 (by omega) hp
      · have := (so.2.2.2 i i0 (by omega)).mp (w i i0 hi hb)
        exact absurd (ra.mpr this.2) z2
    · have hb : ¬ tb x i = true := by
        intro w
        rw [if_pos w] at z
        exact z (by decide)
      refine K m1 _ ⟨by omega, by omega, f1, o1, e1, e2, by rw [bn, if_neg hb], fun j j0 j1 => by rw [bn, if_neg hb]; exact hh j j0 j1, fun p p0 p1 hp => ?_⟩
      by_cases e : p = i
      · rw [e] at hp; exact absurd hp hb
      · exact hsv p p0 (by omega) hp
  · rintro i m1 c hi ⟨i0, i1, f1, o1, e1, e2, rfl, hh, hsv⟩
    obtain rfl : i = 6 := by omega
    have hl6 : (bl x (6 : Int).toNat).length = kn := hkn
    rw [hl6] at hh ⊢
    refine sX11_laid_11 ⟨fun _ => key (pl 6 x) m1 (268435456, []) pc1 (fun y hy i i0 i1 => ?_) f1 o1 (fun y _ => by rw [e2]) (fun p p0 p1 hp => hsv p p0 p1 hp) (Int.le_refl _) (by decide) e1 (fun w => absurd w (by decide)) ?_, fun z => absurd hi z⟩
    · rw [pc2] at hy
      cases hy
      exact hh i i0 i1
    · exact fold_pl hk s 6 x (-1) 0 id (268435456, []) (by omega) (by omega) x64 (by decide) (Int.le_refl _)
