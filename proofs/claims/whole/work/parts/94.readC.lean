/-! reading TELLs: the spec, and the class's helpers -/
/-- one token of kind k is taken; P: the token ahead, the fault, its place -/
def stq (K S : Int → Int) (k : Int) (P : Int × Int × Int) : Int × Int × Int := if P.2.1 ≠ 0 then P else if K P.1 ≠ k then (P.1, 1, S P.1) else if 400 ≤ P.1 then (P.1, 2, S P.1) else (P.1 + 1, 0, P.2.2)
def flF (S : Int → Int) (n : Int) (P : Int × Int × Int) : Int × Int × Int := if P.2.1 ≠ 0 then P else (P.1, n, S P.1)
def rmF (S : Int → Int) (c b : Int) (P : Int × Int × Int) : Int × Int × Int := if c < b then P else flF S 2 P
theorem stq_f {K S : Int → Int} {k : Int} {P : Int × Int × Int} (h : P.2.1 ≠ 0) : stq K S k P = P := by unfold stq; rw [if_pos h]
theorem flF_f {S : Int → Int} {n : Int} {P : Int × Int × Int} (h : P.2.1 ≠ 0) : flF S n P = P := by unfold flF; rw [if_pos h]
theorem rmF_f {S : Int → Int} {c b : Int} {P : Int × Int × Int} (h : P.2.1 ≠ 0) : rmF S c b P = P := by
  unfold rmF
  split
  · rfl
  · exact flF_f h
theorem stq_ok {K S : Int → Int} {k : Int} {P : Int × Int × Int} (h : (stq K S k P).2.1 = 0) : P.2.1 = 0 ∧ K P.1 = k ∧ P.1 < 400 ∧ stq K S k P = (P.1 + 1, 0, P.2.2) := by
  unfold stq at h ⊢
  by_cases h1 : P.2.1 ≠ 0
  · rw [if_pos h1] at h; exact absurd h h1
  · rw [if_neg h1] at h ⊢
    by_cases h2 : K P.1 ≠ k
    · rw [if_pos h2] at h; exact absurd h (by decide : ¬ (1 : Int) = 0)
    · rw [if_neg h2] at h ⊢
      by_cases h3 : 400 ≤ P.1
      · rw [if_pos h3] at h; exact absurd h (by decide : ¬ (2 : Int) = 0)
      · rw [if_neg h3]
        exact ⟨Classical.byContradiction h1, Classical.byContradiction h2, by omega, rfl⟩
theorem rmF_ok {S : Int → Int} {c b : Int} {P : Int × Int × Int} (h : (rmF S c b P).2.1 = 0) : P.2.1 = 0 ∧ c < b ∧ rmF S c b P = P := by
  unfold rmF at h ⊢
  by_cases h1 : c < b
  · rw [if_pos h1] at h ⊢
    exact ⟨h, h1, rfl⟩
  · rw [if_neg h1] at h
    unfold flF at h
    by_cases h2 : P.2.1 ≠ 0
    · rw [if_pos h2] at h; exact absurd h h2
    · rw [if_neg h2] at h; exact absurd h (by decide : ¬ (2 : Int) = 0)
def ltF (S : Int → Int) (n tok : Int) (V : jM) : jM := if V 0 11 ≠ 0 then V else jup (jup V 0 11 n) 0 12 (S tok)
/-- the first name of that value -/
def ixL (V : jM) (x : Int) : Nat → Int
  | 0 => -1
  | j + 1 => if ixL V x j ≠ -1 then ixL V x j else if V 30 j = x then (j : Int) else -1
def ix (V : jM) (x : Int) : Int := ixL V x (V 0 10).toNat
def tlN (W S : Int → Int) (tok w : Int) (V : jM) : jM := if ix V (W tok) ≠ -1 then ltF S 3 tok V else jup (jup (jup V 30 (V 0 10) (W tok)) 31 (V 0 10) w) 0 10 (V 0 10 + 1)
def plN (W S : Int → Int) (tok : Int) (V : jM) : Int × jM := if ix V (W tok) = -1 then (-1, ltF S 4 tok V) else if V 31 (ix V (W tok)) = -1 then (-1, ltF S 4 tok V) else (V 31 (ix V (W tok)), V)
theorem ixL_in {V : jM} {x : Int} : ∀ j : Nat, (ixL V x j = -1 ∧ ∀ i : Int, 0 ≤ i → i < j → V 30 i ≠ x) ∨ (0 ≤ ixL V x j ∧ ixL V x j < j ∧ V 30 (ixL V x j) = x ∧ ∀ i : Int, 0 ≤ i → i < ixL V x j → V 30 i ≠ x) := by
  intro j
  induction j with
  | zero => exact Or.inl ⟨rfl, fun i i0 i1 => absurd i1 (by show ¬ i < ((0 : Nat) : Int); omega)⟩
  | succ j ih =>
    simp only [ixL]
    rcases ih with ⟨e, h⟩ | ⟨h0, h1, h2, h3⟩
    · rw [e, if_neg (by decide)]
      by_cases c : V 30 j = x
      · rw [if_pos c]
        exact Or.inr ⟨by omega, by omega, c, h⟩
      · rw [if_neg c]
        refine Or.inl ⟨rfl, fun i i0 i1 => ?_⟩
        by_cases d : i = j
        · rw [d]; exact c
        · exact h i i0 (by omega)
    · rw [if_pos (by omega)]
      exact Or.inr ⟨h0, by omega, h2, h3⟩
/-- the class's tokens -/
def cTk (K S W : Int → Int) (m : jM) : Prop := m 4 = K ∧ m 5 = S ∧ m 6 = W
def cPs (P : Int × Int × Int) (m : jM) : Prop := (0 ≤ P.1 ∧ P.1 ≤ 400) ∧ m 1 3 = P.1 ∧ m 1 0 = P.2.1 ∧ (P.2.1 ≠ 0 → m 1 1 = P.2.2)
/-- names and the late fault -/
def cNm (V m : jM) : Prop := m 1 8 = V 0 10 ∧ (0 ≤ V 0 10 ∧ V 0 10 ≤ 21) ∧ (∀ i, 0 ≤ i → i < V 0 10 → m 8 i = V 30 i ∧ m 9 i = V 31 i) ∧ m 1 4 = V 0 11 ∧ (V 0 11 ≠ 0 → m 1 5 = V 0 12)
abbrev psF : List (Int × Int) := [(1, 0), (1, 1), (1, 3)]
abbrev ltK : List (Int × Int) := [(1, 4), (1, 5)]
theorem cTk_fr {K S W : Int → Int} {m m' : jM} (h : cTk K S W m) (hf : ∀ q, q ∈ [(4 : Int), 5, 6] → m' q = m q) : cTk K S W m' := by
  unfold cTk at *
  rw [hf 4 (by decide), hf 5 (by decide), hf 6 (by decide)]
  exact h
theorem cPs_fr {P : Int × Int × Int} {m m' : jM} (h : cPs P m) (h3 : m' 1 3 = m 1 3) (h0 : m' 1 0 = m 1 0) (h1 : m' 1 1 = m 1 1) : cPs P m' := by
  unfold cPs at *
  rw [h3, h0, h1]
  exact h
theorem cNm_fr {V m m' : jM} (h : cNm V m) (h8 : m' 1 8 = m 1 8) (h4 : m' 1 4 = m 1 4) (h5 : m' 1 5 = m 1 5) (hn : m' 8 = m 8) (hp : m' 9 = m 9) : cNm V m' := by
  unfold cNm at *
  rw [h8, h4, h5, hn, hp]
  exact h
theorem c_failC {K S W : Int → Int} {m : jM} {Q : Int → jM → Prop} {P : Int × Int × Int} {n : Int} (hT : cTk K S W m) (hP : cPs P m) (hn : n ≠ 0) (hQ : ∀ m', frx [] psF m m' → cPs (flF S n P) m' → Q 0 m') : ML iX4_fail [(2, 1), (0, n)] m Q := by
  obtain ⟨⟨p0, p4⟩, p1, p2, p3⟩ := hP
  refine sX4_fail ⟨fun z => hQ m frx_rf ?_, fun z => ⟨by omega, by omega, hQ _ (frx_upF (frx_upF frx_rf (by decide)) (by decide)) ?_⟩⟩
  · rw [flF_f (by omega)]
    exact ⟨⟨p0, p4⟩, p1, p2, p3⟩
  · unfold flF
    rw [if_neg (by omega)]
    refine ⟨⟨p0, p4⟩, ?_, ?_, fun _ => ?_⟩
    · rw [jup_self, if_neg (by decide), jup_self, if_neg (by decide)]; exact p1
    · rw [jup_self, if_neg (by decide), jup_s]
    · rw [jup_s, p1, hT.2.1]
theorem c_take {K S W : Int → Int} {m : jM} {Q : Int → jM → Prop} {P : Int × Int × Int} {k : Int} (hT : cTk K S W m) (hP : cPs P m) (hQ : ∀ m', frx [] psF m m' → cPs (stq K S k P) m' → Q 0 m') : ML iX4_take [(2, 1), (0, k)] m Q := by
  obtain ⟨⟨p0, p4⟩, p1, p2, p3⟩ := id hP
  refine sX4_take ⟨fun z => sX4_kindAhead ⟨by omega, by omega, fun z2 => ⟨fun z3 => ?_, fun z3 => ?_⟩, fun z2 => ?_⟩, fun z => hQ m frx_rf ?_⟩
  · rw [p1, jw_id (x := P.1 + 1) (by omega) (by omega)]
    refine hQ _ (frx_upF frx_rf (by decide)) ?_
    have e : stq K S k P = (P.1 + 1, 0, P.2.2) := by
      unfold stq
      rw [if_neg (by omega), if_neg (fun w => w (by rw [← hT.1, ← p1]; exact z2)), if_neg (by omega)]
    rw [e]
    refine ⟨⟨by show 0 ≤ P.1 + 1; omega, by show P.1 + 1 ≤ 400; omega⟩, by rw [jup_s], ?_, fun w => absurd rfl w⟩
    rw [jup_self, if_neg (by decide)]; exact z
  · have e : stq K S k P = flF S 2 P := by
      have hf : flF S 2 P = (P.1, 2, S P.1) := by unfold flF; rw [if_neg (by omega)]
      rw [hf]
      unfold stq
      rw [if_neg (by omega), if_neg (fun w => w (by rw [← hT.1, ← p1]; exact z2)), if_pos (by omega)]
    rw [e] at hQ
    exact c_failC hT hP (by decide) hQ
  · have e : stq K S k P = flF S 1 P := by
      have hf : flF S 1 P = (P.1, 1, S P.1) := by unfold flF; rw [if_neg (by omega)]
      rw [hf]
      unfold stq
      rw [if_neg (by omega), if_pos (fun w => z2 (by rw [hT.1, p1]; exact w))]
    rw [e] at hQ
    exact c_failC hT hP (by decide) hQ
  · rw [stq_f (by omega)]
    exact hP
theorem c_room {K S W : Int → Int} {m : jM} {Q : Int → jM → Prop} {P : Int × Int × Int} {c b : Int} (hT : cTk K S W m) (hP : cPs P m) (hQ : ∀ m', frx [] psF m m' → cPs (rmF S c b P) m' → Q 0 m') : ML iX4_needRoom [(2, 1), (0, c), (0, b)] m Q := by
  unfold rmF at hQ
  refine sX4_needRoom ⟨fun z => ?_, fun z => ?_⟩
  · rw [if_pos z] at hQ
    exact hQ m frx_rf hP
  · rw [if_neg z] at hQ
    exact c_failC hT hP (by decide) hQ
theorem c_failLate {K S W : Int → Int} {V m : jM} {Q : Int → jM → Prop} {n t : Int} (hT : cTk K S W m) (hN : cNm V m) (t0 : 0 ≤ t) (t1 : t ≤ 400) (hn : n ≠ 0) (hQ : ∀ m', frx [] ltK m m' → cNm (ltF S n t V) m' → Q 0 m') : ML iX4_failLate [(2, 1), (0, n), (0, t)] m Q := by
  obtain ⟨n1, n2, n3, n4, n5⟩ := id hN
  unfold ltF at hQ
  refine sX4_failLate ⟨fun z => hQ m frx_rf ?_, fun z => ⟨t0, by omega, hQ _ (frx_upF (frx_upF frx_rf (by decide)) (by decide)) ?_⟩⟩
  · rw [if_pos (by omega)]; exact hN
  · rw [if_neg (by omega)]
    refine ⟨n1, n2, n3, rfl, fun _ => ?_⟩
    rw [jup_s, jup_s, hT.2.1]
theorem c_wrongIf {K S W : Int → Int} {V m : jM} {Q : Int → jM → Prop} {b t : Int} (hT : cTk K S W m) (hN : cNm V m) (t0 : 0 ≤ t) (t1 : t ≤ 400) (hQ : ∀ m', frx [] ltK m m' → cNm (if b ≠ 0 then ltF S 5 t V else V) m' → Q 0 m') : ML iX4_wrongIf [(2, 1), (0, b), (0, t)] m Q := by
  refine sX4_wrongIf ⟨fun z => ?_, fun z => ?_⟩
  · rw [if_neg (fun w => w z)] at hQ
    exact hQ m frx_rf hN
  · rw [if_pos z] at hQ
    exact c_failLate hT hN t0 t1 (by decide) hQ
theorem c_indexOf {K S W : Int → Int} {V m : jM} {Q : Int → jM → Prop} {t : Int} (hT : cTk K S W m) (hN : cNm V m) (t0 : 0 ≤ t) (t1 : t ≤ 400) (hQ : Q (ix V (W t)) m) : ML iX4_indexOfName [(2, 1), (0, t)] m Q := by
  obtain ⟨n1, n2, n3, n4, n5⟩ := hN
  refine sX4_indexOfName ?_
  have en : (((V 0 10).toNat : Nat) : Int) = V 0 10 := Int.toNat_of_nonneg n2.1
  have hi := ixL_in (V := V) (x := W t) (V 0 10).toNat
  rw [en] at hi
  refine lup (n := V 0 10) (I := fun i (m1 : jM) => 0 ≤ i ∧ i ≤ V 0 10 ∧ m1 = m ∧ ∀ j, 0 ≤ j → j < i → V 30 j ≠ W t) (G := fun i m1 => GL iX4_indexOfName m1 2 [(2, 1), (0, t), (0, i)] [] Q) ?_ ?_ 0 m ⟨by decide, n2.1, rfl, fun j j0 j1 => by omega⟩
  · rintro i m1 hi2 ⟨i0, -, rfl, h1⟩ K2
    refine sX4_indexOfName_2 ?_
    rw [n1, (n3 i i0 hi2).1, hT.2.2, jw_id (x := i + 1) (by omega) (by omega)]
    refine ⟨fun z => absurd z (by omega), fun _ => ⟨i0, by omega, t0, by omega, fun z => K2 m1 ⟨by omega, by omega, rfl, fun j j0 j1 => ?_⟩, fun z => ?_⟩⟩
    · by_cases e : j = i
      · rw [e]; exact jcmp_ne.mp z
      · exact h1 j j0 (by omega)
    · have e : V 30 i = W t := Classical.byContradiction (fun w => z (jcmp_ne.mpr w))
      have : ix V (W t) = i := by
        unfold ix
        rcases hi with ⟨-, h⟩ | ⟨a, b, c, d⟩
        · exact absurd e (h i i0 hi2)
        · rcases Int.lt_trichotomy (ixL V (W t) (V 0 10).toNat) i with q | q | q
          · exact absurd c (h1 _ a q)
          · exact q
          · exact absurd e (d i i0 q)
      rw [this] at hQ
      exact hQ
  · rintro i m1 hi2 ⟨i0, i1, rfl, h1⟩
    obtain rfl : i = V 0 10 := by omega
    refine sX4_indexOfName_2 ?_
    rw [n1]
    refine ⟨fun _ => ?_, fun z => absurd (Int.le_refl _) z⟩
    have : ix V (W t) = -1 := by
      unfold ix
      rcases hi with ⟨e, -⟩ | ⟨a, b, c, d⟩
      · exact e
      · exact absurd c (h1 _ a b)
    rw [this] at hQ
    exact hQ
theorem c_tellName {K S W : Int → Int} {V m : jM} {Q : Int → jM → Prop} {t w : Int} (hT : cTk K S W m) (hN : cNm V m) (t0 : 0 ≤ t) (t1 : t ≤ 400) (hr : V 0 10 < 21) (hQ : ∀ m', frx [8, 9] [(1, 4), (1, 5), (1, 8)] m m' → cNm (tlN W S t w V) m' → Q 0 m') : ML iX4_tellName [(2, 1), (0, t), (0, w)] m Q := by
  obtain ⟨n1, n2, n3, n4, n5⟩ := id hN
  unfold tlN at hQ
  refine sX4_tellName (c_indexOf hT hN t0 t1 ⟨fun z => ?_, fun z => ?_⟩)
  · rw [if_neg (fun y => y z)] at hQ
    rw [n1, hT.2.2, jw_id (x := V 0 10 + 1) (by omega) (by omega)]
    refine ⟨fun y => absurd y (by omega), fun _ => ⟨t0, by omega, by omega, by omega, by omega, by omega, hQ _ (frx_upF (frx_upA (frx_upA frx_rf (by decide)) (by decide)) (by decide)) ?_⟩⟩
    have e10 : (jup (jup (jup V 30 (V 0 10) (W t)) 31 (V 0 10) w) 0 10 (V 0 10 + 1)) 0 10 = V 0 10 + 1 := jup_s
    refine ⟨by rw [e10, jup_s], by rw [e10]; omega, fun i i0 i1 => ?_, ?_, ?_⟩
    · rw [e10] at i1
      have h3 := n3 i i0
      by_cases e : i = V 0 10
      · subst e; simp [jup]
      · have := h3 (by omega)
        simp [jup, e, this]
    · simp [jup]; exact n4
    · simp [jup]; exact n5
  · rw [if_pos z] at hQ
    exact c_failLate hT hN t0 t1 (by decide) (fun m' f' h' => hQ m' (frx_mono f' (by decide) (by decide)) h')
theorem c_placeNamed {K S W : Int → Int} {V m : jM} {Q : Int → jM → Prop} {t : Int} (hT : cTk K S W m) (hN : cNm V m) (t0 : 0 ≤ t) (t1 : t ≤ 400) (hQ : ∀ m', frx [] ltK m m' → cNm (plN W S t V).2 m' → Q (plN W S t V).1 m') : ML iX4_placeNamed [(2, 1), (0, t)] m Q := by
  obtain ⟨n1, n2, n3, n4, n5⟩ := id hN
  have en : (((V 0 10).toNat : Nat) : Int) = V 0 10 := Int.toNat_of_nonneg n2.1
  have hi := ixL_in (V := V) (x := W t) (V 0 10).toNat
  rw [en] at hi
  unfold plN at hQ
  refine sX4_placeNamed (c_indexOf hT hN t0 t1 ⟨fun z => ?_, fun z => ?_⟩)
  · rw [if_neg z] at hQ
    have hi2 : 0 ≤ ix V (W t) ∧ ix V (W t) < V 0 10 := by
      unfold ix at z ⊢
      rcases hi with ⟨e, -⟩ | ⟨a, b, c, d⟩
      · exact absurd e z
      · exact ⟨a, b⟩
    rw [(n3 _ hi2.1 hi2.2).2]
    refine ⟨hi2.1, by omega, fun z2 => ?_, fun z2 => ?_⟩
    · rw [if_neg z2] at hQ
      exact hQ m frx_rf hN
    · have e := Classical.byContradiction z2
      rw [if_pos e] at hQ
      rw [e]
      exact c_failLate hT hN t0 t1 (by decide) hQ
  · rw [if_pos (Classical.byContradiction z)] at hQ
    exact c_failLate hT hN t0 t1 (by decide) hQ
theorem c_intAt {K S W : Int → Int} {m : jM} {Q : Int → jM → Prop} {t : Int} (hT : cTk K S W m) (t0 : 0 ≤ t) (t1 : t ≤ 400) (hw : 0 ≤ W t ∧ W t ≤ 9999) (hQ : Q (W t) m) : ML iX4_intAt [(2, 1), (0, t)] m Q := by
  refine sX4_intAt ⟨t0, by omega, ?_⟩
  rw [hT.2.2, jw_id (by omega) (by omega)]
  exact hQ
