/-! the reference's scanner -/
def rbI (B : Int → Int) (m : jM) : Prop := (0 ≤ m 139 0 ∧ m 139 0 ≤ 2000) ∧ (∀ p, 0 ≤ p → p < m 139 0 → m 140 p = B p ∧ 0 ≤ B p ∧ B p ≤ 255) ∧ ∀ p, m 139 0 ≤ p → B p = -1
theorem c_byteR {B : Int → Int} {m : jM} {Q : Int → jM → Prop} {a : Int} (hb : rbI B m) (a0 : 0 ≤ a) (hQ : ∀ r, (m 139 0 ≤ a → r = 0) → (a < m 139 0 → r = B a) → Q r m) : ML iX11_byteAt [(2, 139), (0, a)] m Q := by
  have t := hb.1
  refine sX11_byteAt ⟨fun z => hQ 0 (fun _ => rfl) (fun w => by omega), fun z => ⟨a0, by omega, ?_⟩⟩
  exact hQ _ (fun w => absurd w z) (fun w => (hb.2.1 a a0 w).1)
theorem c_letterR {B : Int → Int} {m : jM} {Q : Int → jM → Prop} {a : Int} (hb : rbI B m) (a0 : 0 ≤ a) (hQ : ∀ r, (isLe (B a) → r = 1) → (¬ isLe (B a) → r = 0) → Q r m) : ML iX11_isLetter [(2, 139), (0, a)] m Q := by
  unfold isLe at hQ
  have out := hb.2.2 a
  refine sX11_isLetter (c_byteR hb a0 (fun r r0 r1 => ⟨fun z => hQ 0 (fun w => ?_) (fun _ => rfl), fun z => c_byteR hb a0 (fun s s0 s1 => ⟨fun z2 => hQ 0 (fun w => ?_) (fun _ => rfl), fun z2 => hQ 1 (fun _ => rfl) (fun w => ?_)⟩)⟩))
  · by_cases c : m 139 0 ≤ a
    · have := out c; omega
    · have := r1 (by omega); omega
  · by_cases c : m 139 0 ≤ a
    · have := out c; omega
    · have := s1 (by omega); omega
  · by_cases c : m 139 0 ≤ a
    · have := r0 c; omega
    · have := s1 (by omega); have := r1 (by omega); omega
theorem c_digitR {B : Int → Int} {m : jM} {Q : Int → jM → Prop} {a : Int} (hb : rbI B m) (a0 : 0 ≤ a) (hQ : ∀ r, (isDi (B a) → r = 1) → (¬ isDi (B a) → r = 0) → Q r m) : ML iX11_isDigit [(2, 139), (0, a)] m Q := by
  unfold isDi at hQ
  have out := hb.2.2 a
  refine sX11_isDigit (c_byteR hb a0 (fun r r0 r1 => ⟨fun z => hQ 0 (fun w => ?_) (fun _ => rfl), fun z => c_byteR hb a0 (fun s s0 s1 => ⟨fun z2 => hQ 0 (fun w => ?_) (fun _ => rfl), fun z2 => hQ 1 (fun _ => rfl) (fun w => ?_)⟩)⟩))
  · by_cases c : m 139 0 ≤ a
    · have := out c; omega
    · have := r1 (by omega); omega
  · by_cases c : m 139 0 ≤ a
    · have := out c; omega
    · have := s1 (by omega); omega
  · by_cases c : m 139 0 ≤ a
    · have := r0 c; omega
    · have := s1 (by omega); have := r1 (by omega); omega
def sgR (a b : Int) : Int := if a = 61 then (if b = 61 then 300 else 0) else if a = 33 then (if b = 61 then 301 else 0) else if a = 60 then (if b = 61 then 302 else 60) else if a = 59 ∨ a = 43 ∨ a = 45 ∨ a = 42 ∨ a = 40 ∨ a = 41 then a else 0
/-- the reference's number of a sign -/
def sgn (k : Int) : Int := ([59, 43, 45, 42, 300, 301, 60, 302, 40, 41] : List Int).getD (k - 24).toNat 0
theorem sg_rel (a b : Int) : (ksg a b = 35 → sgR a b = 0) ∧ (ksg a b ≤ 33 → sgR a b = sgn (ksg a b) ∧ sgR a b ≠ 0) ∧ ((ksg a b = 28 ∨ ksg a b = 29 ∨ ksg a b = 31) ↔ 300 ≤ sgR a b) := by
  by_cases hb : b = 61
  · subst hb
    have c : a = 33 ∨ a = 40 ∨ a = 41 ∨ a = 42 ∨ a = 43 ∨ a = 45 ∨ a = 59 ∨ a = 60 ∨ a = 61 ∨ (a ≠ 33 ∧ a ≠ 40 ∧ a ≠ 41 ∧ a ≠ 42 ∧ a ≠ 43 ∧ a ≠ 45 ∧ a ≠ 59 ∧ a ≠ 60 ∧ a ≠ 61) := by omega
    rcases c with rfl | rfl | rfl | rfl | rfl | rfl | rfl | rfl | rfl | ⟨h1, h2, h3, h4, h5, h6, h7, h8, h9⟩
    all_goals first | decide | skip
    have e1 : ksg a 61 = 35 := by unfold ksg; rw [if_neg h1, if_neg h2, if_neg h3, if_neg h4, if_neg h5, if_neg h6, if_neg h7, if_neg h8, if_neg h9]
    have e2 : sgR a 61 = 0 := by unfold sgR; rw [if_neg h9, if_neg h1, if_neg h8, if_neg (by omega)]
    rw [e1, e2]
    exact ⟨fun _ => rfl, fun w => absurd w (by decide), by decide⟩
  · have c : a = 33 ∨ a = 40 ∨ a = 41 ∨ a = 42 ∨ a = 43 ∨ a = 45 ∨ a = 59 ∨ a = 60 ∨ a = 61 ∨ (a ≠ 33 ∧ a ≠ 40 ∧ a ≠ 41 ∧ a ≠ 42 ∧ a ≠ 43 ∧ a ≠ 45 ∧ a ≠ 59 ∧ a ≠ 60 ∧ a ≠ 61) := by omega
    unfold ksg sgR
    rw [if_neg hb, if_neg hb, if_neg hb, if_neg hb, if_neg hb, if_neg hb]
    rcases c with rfl | rfl | rfl | rfl | rfl | rfl | rfl | rfl | rfl | ⟨h1, h2, h3, h4, h5, h6, h7, h8, h9⟩
    all_goals first | decide | skip
    rw [if_neg h1, if_neg h2, if_neg h3, if_neg h4, if_neg h5, if_neg h6, if_neg h7, if_neg h8, if_neg h9, if_neg h9, if_neg h1, if_neg h8, if_neg (by omega)]
    exact ⟨fun _ => rfl, fun w => absurd w (by decide), by decide⟩
theorem c_signAt {B : Int → Int} {m : jM} {Q : Int → jM → Prop} {a : Int} (hb : rbI B m) (a0 : 0 ≤ a) (a1 : a < m 139 0) (hQ : Q (sgR (B a) (B (a + 1))) m) : ML iX11_signAt [(2, 139), (0, a)] m Q := by
  have t := hb.1
  have key : ∀ s, sgR (B a) (B (a + 1)) = s → Q s m := fun s h => h ▸ hQ
  refine sX11_signAt (c_byteR hb a0 (fun r _ r1 => ?_))
  rw [jw_id (x := a + 1) (by omega) (by omega)]
  refine c_byteR hb (by omega) (fun s s0 s1 => ?_)
  rw [r1 a1]
  have go : ∀ x : Int, (x = 0 ↔ B (a + 1) ≠ 61) → GL iX11_signAt m 23 [(9, 0), (9, 0), (0, B a), (9, 0)] [(0, x)] Q := by
    intro x hx
    unfold sgR at key
    have no : ¬ (B a = 61) → ¬ (B a = 33) → ¬ (B a = 60) → (B a = 59 ∨ B a = 43 ∨ B a = 45 ∨ B a = 42 ∨ B a = 40 ∨ B a = 41) → Q (B a) m := fun h1 h2 h3 h4 => key _ (by rw [if_neg h1, if_neg h2, if_neg h3, if_pos h4])
    refine sX11_signAt_23 ⟨fun h1 => ⟨fun h2 => ⟨fun h3 => ⟨fun h4 => no h1 h2 h3 (by omega), fun h4 => ⟨fun h5 => no h1 h2 h3 (by omega), fun h5 => ⟨fun h6 => no h1 h2 h3 (by omega), fun h6 => ⟨fun h7 => no h1 h2 h3 (by omega), fun h7 => ⟨fun h8 => no h1 h2 h3 (by omega), fun h8 => ⟨fun h9 => key _ ?_, fun h9 => no h1 h2 h3 (by omega)⟩⟩⟩⟩⟩⟩, fun h3 => ⟨fun h4 => key _ ?_, fun h4 => key _ ?_⟩⟩, fun h2 => ⟨fun h4 => key _ ?_, fun h4 => key _ ?_⟩⟩, fun h1 => ⟨fun h4 => key _ ?_, fun h4 => key _ ?_⟩⟩
    · rw [if_neg h1, if_neg h2, if_neg h3, if_neg (by omega)]
    · rw [if_neg h1, if_neg h2, if_pos (Classical.byContradiction h3), if_neg (hx.mp h4)]; omega
    · rw [if_neg h1, if_neg h2, if_pos (Classical.byContradiction h3), if_pos (Classical.byContradiction (fun w => h4 (hx.mpr w)))]
    · rw [if_neg h1, if_pos (Classical.byContradiction h2), if_neg (hx.mp h4)]
    · rw [if_neg h1, if_pos (Classical.byContradiction h2), if_pos (Classical.byContradiction (fun w => h4 (hx.mpr w)))]
    · rw [if_pos (Classical.byContradiction h1), if_neg (hx.mp h4)]
    · rw [if_pos (Classical.byContradiction h1), if_pos (Classical.byContradiction (fun w => h4 (hx.mpr w)))]
  have out := hb.2.2 (a + 1)
  have eq : s = 61 ↔ B (a + 1) = 61 := by
    by_cases c : m 139 0 ≤ a + 1
    · rw [s0 c, out c]; decide
    · rw [s1 (by omega)]
  exact ⟨fun z => go 0 ⟨fun _ w => z (eq.mpr w), fun _ => rfl⟩, fun z => go 1 ⟨fun w => absurd w (by decide), fun w => absurd (eq.mp (Classical.byContradiction z)) w⟩⟩
/-- a token of the class, and the reference's -/
def tkX (kd vl p so fr wh nm : Int) : Prop := fr = p ∧ (0 ≤ kd → kd < 22 → so = 3 ∧ wh = wno kd) ∧ (kd = 22 → so = 0) ∧ (kd = 23 → so = 1 ∧ wh = vl ∧ 0 ≤ vl ∧ vl ≤ 9999) ∧ (24 ≤ kd → kd ≤ 33 → so = 2 ∧ wh = sgn kd) ∧ (kd = 34 → so = 4) ∧ (kd = 35 ↔ so = 5) ∧ (0 ≤ kd → kd ≤ 22 → ∃ l, okW l ∧ vl = vB 32 l ∧ nm = vB 27 l)
theorem c_wordOf {m : jM} {Q : Int → jM → Prop} {l : List Int} {k : Int} (hl : okW l) (hk : kdW l k) (hQ : Q (if k < 22 then wno k else -1) m) : ML iX11_wordOf [(1, vB 27 l)] m Q := by
  have hit : ∀ i c w : Int, 0 ≤ i → i < 22 → vB 27 (wd i) = c → wno i = w → ¬ (jcmp (vB 27 l) c ≠ 0) → Q w m := by
    intro i c w i0 i1 hc hw z
    have e : vB 27 l = c := Classical.byContradiction (fun y => z (jcmp_ne.mpr y))
    have el : wd i = l := vB_inj (b := 27) (by decide) (wd_in i0 i1).1 hl.1 (hc.trans e.symm)
    have ek : k = i := by
      rcases hk with ⟨k0, k1, h⟩ | ⟨-, h⟩
      · have := wd_nd ⟨k.toNat, by omega⟩ ⟨i.toNat, by omega⟩ (by simp only [Int.toNat_of_nonneg k0, Int.toNat_of_nonneg i0]; rw [h, el])
        have := congrArg Fin.val this
        simp only at this
        omega
      · exact absurd el (h i i0 i1)
    rw [ek, if_pos i1, hw] at hQ
    exact hQ
  have rest : jcmp (vB 27 l) 8740067 ≠ 0 → jcmp (vB 27 l) 16819 ≠ 0 → jcmp (vB 27 l) 1489 ≠ 0 → jcmp (vB 27 l) 274392372 ≠ 0 → jcmp (vB 27 l) 47 ≠ 0 → jcmp (vB 27 l) 388978 ≠ 0 → jcmp (vB 27 l) 9748424 ≠ 0 → jcmp (vB 27 l) 249 ≠ 0 → jcmp (vB 27 l) 10197082 ≠ 0 → jcmp (vB 27 l) 360968 ≠ 0 → jcmp (vB 27 l) 453773 ≠ 0 → jcmp (vB 27 l) 395046 ≠ 0 → jcmp (vB 27 l) 7867157 ≠ 0 → jcmp (vB 27 l) 2044 ≠ 0 → jcmp (vB 27 l) 423 ≠ 0 → jcmp (vB 27 l) 1111 ≠ 0 → jcmp (vB 27 l) 10631 ≠ 0 → jcmp (vB 27 l) 1831780 ≠ 0 → jcmp (vB 27 l) 7542361 ≠ 0 → jcmp (vB 27 l) 4419 ≠ 0 → jcmp (vB 27 l) 374873 ≠ 0 → jcmp (vB 27 l) 2968 ≠ 0 → Q (-1) m := by
    intro z0 z1 z2 z3 z4 z5 z6 z7 z8 z9 z10 z11 z12 z13 z14 z15 z16 z17 z18 z19 z20 z21
    have k22 : ¬ (0 ≤ k ∧ k < 22 ∧ wd k = l) := by
      rintro ⟨k0, k1, rfl⟩
      have c : k = 0 ∨ k = 1 ∨ k = 2 ∨ k = 3 ∨ k = 4 ∨ k = 5 ∨ k = 6 ∨ k = 7 ∨ k = 8 ∨ k = 9 ∨ k = 10 ∨ k = 11 ∨ k = 12 ∨ k = 13 ∨ k = 14 ∨ k = 15 ∨ k = 16 ∨ k = 17 ∨ k = 18 ∨ k = 19 ∨ k = 20 ∨ k = 21 := by omega
      rcases c with rfl | rfl | rfl | rfl | rfl | rfl | rfl | rfl | rfl | rfl | rfl | rfl | rfl | rfl | rfl | rfl | rfl | rfl | rfl | rfl | rfl | rfl
      · exact jcmp_ne.mp z0 rfl
      · exact jcmp_ne.mp z1 rfl
      · exact jcmp_ne.mp z3 rfl
      · exact jcmp_ne.mp z5 rfl
      · exact jcmp_ne.mp z6 rfl
      · exact jcmp_ne.mp z8 rfl
      · exact jcmp_ne.mp z9 rfl
      · exact jcmp_ne.mp z10 rfl
      · exact jcmp_ne.mp z11 rfl
      · exact jcmp_ne.mp z12 rfl
      · exact jcmp_ne.mp z13 rfl
      · exact jcmp_ne.mp z4 rfl
      · exact jcmp_ne.mp z2 rfl
      · exact jcmp_ne.mp z7 rfl
      · exact jcmp_ne.mp z14 rfl
      · exact jcmp_ne.mp z15 rfl
      · exact jcmp_ne.mp z16 rfl
      · exact jcmp_ne.mp z17 rfl
      · exact jcmp_ne.mp z18 rfl
      · exact jcmp_ne.mp z19 rfl
      · exact jcmp_ne.mp z20 rfl
      · exact jcmp_ne.mp z21 rfl
    have e : k = 22 := by rcases hk with w | w; exact absurd w k22; exact w.1
    rw [e] at hQ
    exact hQ
  exact sX11_wordOf ⟨fun z0 => ⟨fun z1 => ⟨fun z2 => ⟨fun z3 => ⟨fun z4 => ⟨fun z5 => ⟨fun z6 => ⟨fun z7 => ⟨fun z8 => ⟨fun z9 => ⟨fun z10 => ⟨fun z11 => ⟨fun z12 => ⟨fun z13 => ⟨fun z14 => ⟨fun z15 => ⟨fun z16 => ⟨fun z17 => ⟨fun z18 => ⟨fun z19 => ⟨fun z20 => ⟨fun z21 => rest z0 z1 z2 z3 z4 z5 z6 z7 z8 z9 z10 z11 z12 z13 z14 z15 z16 z17 z18 z19 z20 z21, fun z => hit 21 _ _ (by decide) (by decide) rfl rfl z⟩, fun z => hit 20 _ _ (by decide) (by decide) rfl rfl z⟩, fun z => hit 19 _ _ (by decide) (by decide) rfl rfl z⟩, fun z => hit 18 _ _ (by decide) (by decide) rfl rfl z⟩, fun z => hit 17 _ _ (by decide) (by decide) rfl rfl z⟩, fun z => hit 16 _ _ (by decide) (by decide) rfl rfl z⟩, fun z => hit 15 _ _ (by decide) (by decide) rfl rfl z⟩, fun z => hit 14 _ _ (by decide) (by decide) rfl rfl z⟩, fun z => hit 10 _ _ (by decide) (by decide) rfl rfl z⟩, fun z => hit 9 _ _ (by decide) (by decide) rfl rfl z⟩, fun z => hit 8 _ _ (by decide) (by decide) rfl rfl z⟩, fun z => hit 7 _ _ (by decide) (by decide) rfl rfl z⟩, fun z => hit 6 _ _ (by decide) (by decide) rfl rfl z⟩, fun z => hit 5 _ _ (by decide) (by decide) rfl rfl z⟩, fun z => hit 13 _ _ (by decide) (by decide) rfl rfl z⟩, fun z => hit 4 _ _ (by decide) (by decide) rfl rfl z⟩, fun z => hit 3 _ _ (by decide) (by decide) rfl rfl z⟩, fun z => hit 11 _ _ (by decide) (by decide) rfl rfl z⟩, fun z => hit 2 _ _ (by decide) (by decide) rfl rfl z⟩, fun z => hit 12 _ _ (by decide) (by decide) rfl rfl z⟩, fun z => hit 1 _ _ (by decide) (by decide) rfl rfl z⟩, fun z => hit 0 _ _ (by decide) (by decide) rfl rfl z⟩
