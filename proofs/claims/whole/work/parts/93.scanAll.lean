/-! all tokens of the reference -/
theorem tkC_e {B : Int → Int} {p kd vl e e' : Int} (h : tkC B p kd vl e) (h' : tkC B p kd vl e') : e = e' := by
  rcases h with ⟨h1, h2, h3⟩ | ⟨h1, h2, h3⟩ | ⟨h1, h2, h3⟩ | ⟨h1, h2, h3, h4, h5⟩ <;> rcases h' with ⟨g1, g2, g3⟩ | ⟨g1, g2, g3⟩ | ⟨g1, g2, g3⟩ | ⟨g1, g2, g3, g4, g5⟩
  · omega
  · rw [h1] at g1; exact absurd g1 nLe
  · rw [h1] at g1; exact absurd g1 nDi
  · exact absurd h1 g1
  · rw [g1] at h1; exact absurd h1 nLe
  · exact isRun_1 h2 g2
  · unfold isLe at h1; unfold isDi at g1; omega
  · exact absurd h1 g2
  · rw [g1] at h1; exact absurd h1 nDi
  · unfold isDi at h1; unfold isLe at g1; omega
  · exact isRun_1 h2 g2
  · exact absurd h1 g3
  · exact absurd g1 h1
  · exact absurd g1 h2
  · exact absurd g1 h3
  · rw [h5, g5]
theorem tch_1 {B K S V : Int → Int} : ∀ {i : Nat} {a a' : Int}, tch B K S V i a → tch B K S V i a' → a = a' := by
  intro i
  induction i with
  | zero => intro a a' h h'; exact h.trans h'.symm
  | succ i ih =>
    rintro a a' ⟨b, h1, h2, h3⟩ ⟨b', g1, g2, g3⟩
    exact tkC_e h3 g3
theorem tch_pre {B K S V : Int → Int} : ∀ {d i : Nat} {a : Int}, tch B K S V (i + d) a → ∃ b, tch B K S V i b := by
  intro d
  induction d with
  | zero => intro i a h; exact ⟨a, h⟩
  | succ d ih =>
    intro i a h
    obtain ⟨b, h1, -⟩ := h
    exact ih h1
/-- the class's tokens as functions; the last is the n-th -/
def tkN (B K S V : Int → Int) (n : Int) : Prop := 0 ≤ n ∧ n ≤ 400 ∧ (∃ a, tch B K S V (n + 1).toNat a) ∧ (∀ j, 0 ≤ j → j < n → K j ≠ 34 ∧ K j ≠ 35) ∧ (n = 400 ∨ K n = 34 ∨ K n = 35)
/-- the reference's tokens are the class's -/
def tkM (K S V : Int → Int) (n : Int) (m : jM) : Prop := ∀ j, 0 ≤ j → j ≤ n → tkX (K j) (V j) (S j) (m 141 j) (m 142 j) (m 143 j) (m 144 j)
abbrev tkFr : List Int := [141, 142, 143, 144]
theorem c_scanAll {B K S V : Int → Int} {n : Int} {m : jM} {Q : Int → jM → Prop} (hb : rbI B m) (hN : tkN B K S V n) (hQ : ∀ m', frx tkFr [(139, 2)] m m' → tkM K S V n m' → Q 0 m') : ML iX11_scanAll [(2, 139)] m Q := by
  have t := hb.1
  obtain ⟨n0, n4, ⟨a9, c9⟩, hK, hE⟩ := hN
  have bfr : ∀ m', frx tkFr [(139, 2)] m m' → rbI B m' ∧ m' 139 0 = m 139 0 := by
    intro m' f
    unfold rbI
    rw [f 139 0 (by decide) (by decide), frx_row f 140 (by decide) (by decide)]
    exact ⟨hb, rfl⟩
  refine sX11_scanAll ?_
  -- T tokens stand, the reader is at k
  have key : ∀ (N : Nat) (k : Int) (m1 : jM), m 139 0 - k < N → frx tkFr [(139, 2)] m m1 → 0 ≤ m1 139 2 → m1 139 2 ≤ k → k ≤ m 139 0 → (m1 139 2 ≤ n → ∃ a, tch B K S V (m1 139 2).toNat a ∧ a ≤ k ∧ ∀ q, a ≤ q → q < k → isBl (B q)) → (∀ j, 0 ≤ j → j ≤ n → j < m1 139 2 → tkX (K j) (V j) (S j) (m1 141 j) (m1 142 j) (m1 143 j) (m1 144 j)) → (n < m1 139 2 → n = 400) → GL iX11_scanAll m1 9 [(2, 139), (0, k), (0, 1), (9, 0)] [] Q := by
    intro N
    induction N with
    | zero =>
      intro k m1 h1 _ _ _ h5
      omega
    | succ N ih =>
      intro k m1 h1 f1 T0 Tk kL hc hx h400
      have b1 := bfr m1 f1
      have stepB : k < m 139 0 → isBl (B k) → GL iX11_scanAll m1 9 [(2, 139), (0, k + 1), (0, 1), (9, 0)] [] Q := by
        intro kl hbl
        refine ih (k + 1) m1 (by omega) f1 T0 (by omega) (by omega) (fun w => ?_) hx h400
        obtain ⟨a, a1, a2, a3⟩ := hc w
        exact ⟨a, a1, by omega, fun q q0 q1 => by
          by_cases c : q = k
          · rw [c]; exact hbl
          · exact a3 q q0 (by omega)⟩
      -- the next token of the class
      have next : m1 139 2 ≤ n → ¬ isBl (B k) → ∃ e, k = S (m1 139 2) ∧ tkC B k (K (m1 139 2)) (V (m1 139 2)) e ∧ tch B K S V (m1 139 2 + 1).toNat e := by
        intro w nb
        obtain ⟨a, a1, a2, a3⟩ := hc w
        have pre : ∃ e, tch B K S V (m1 139 2 + 1).toNat e := by
          have : (n + 1).toNat = (m1 139 2 + 1).toNat + (n - m1 139 2).toNat := by omega
          rw [this] at c9
          exact tch_pre c9
        obtain ⟨e, he⟩ := pre
        have he' := he
        rw [show (m1 139 2 + 1).toNat = (m1 139 2).toNat + 1 by omega] at he'
        obtain ⟨b, h1, h2, h3⟩ := he'
        have eb := tch_1 a1 h1
        subst eb
        rw [Int.toNat_of_nonneg T0] at h2 h3
        have ek : S (m1 139 2) = k := isRun_1 h2 ⟨a2, a3, nb⟩
        rw [ek] at h3
        exact ⟨e, ek.symm, h3, he⟩
      refine sX11_scanAll_9 ?_
      rw [b1.2]
      refine ⟨fun z => ⟨fun w => absurd w (by decide), fun _ => ?_⟩, fun z => ⟨fun w => absurd w (by decide), fun _ => c_byteR b1.1 (by omega) (fun c _ c1 => ?_)⟩⟩
      · -- the end of the tape
        have ek : k = m 139 0 := by omega
        refine c_token (T := m1 139 2) rkU_rf rfl T0 (by omega) (fun m' u' g2 g1 g3 g4 _ => hQ m' (frx_tr f1 u'.1) (fun j j0 j1 => ?_))
        by_cases c : j = m1 139 2
        · rw [c]
          have nb : ¬ isBl (B k) := by rw [hb.2.2 k z]; exact nBl
          obtain ⟨e, e1, e2, e3⟩ := next (by omega) nb
          have bo : B k = -1 := hb.2.2 k z
          have k34 : K (m1 139 2) = 34 := by
            rcases e2 with ⟨-, h2, -⟩ | ⟨h2, -⟩ | ⟨h2, -⟩ | ⟨h2, -⟩
            · exact h2
            · rw [bo] at h2; exact absurd h2 nLe
            · rw [bo] at h2; exact absurd h2 nDi
            · exact absurd bo h2
          exact ⟨by rw [g3, ← e1]; omega, fun a b => by omega, fun a => by omega, fun a => by omega, fun a b => by omega, fun _ => g1, ⟨fun a => by omega, fun a => by omega⟩, fun a b => by omega⟩
        · have u := u'.2 j c
          rw [u.1, u.2.1, u.2.2.1, u.2.2.2]
          by_cases d : j < m1 139 2
          · exact hx j j0 j1 d
          · -- the class has no token behind the end
            exfalso
            have nb : ¬ isBl (B k) := by rw [hb.2.2 k z]; exact nBl
            obtain ⟨e, e1, e2, e3⟩ := next (by omega) nb
            have bo : B k = -1 := hb.2.2 k z
            have k34 : K (m1 139 2) = 34 := by
              rcases e2 with ⟨-, h2, -⟩ | ⟨h2, -⟩ | ⟨h2, -⟩ | ⟨h2, -⟩
              · exact h2
              · rw [bo] at h2; exact absurd h2 nLe
              · rw [bo] at h2; exact absurd h2 nDi
              · exact absurd bo h2
            exact (hK (m1 139 2) T0 (by omega)).1 k34
      · have kl : k < m 139 0 := by omega
        rw [c1 (by rw [b1.2]; exact kl), jw_id (x := k + 1) (by omega) (by omega)]
        refine ⟨fun z1 => stepB kl (by unfold isBl; omega), fun z1 => ⟨fun z2 => stepB kl (by unfold isBl; omega), fun z2 => ⟨fun z3 => stepB kl (by unfold isBl; omega), fun z3 => ⟨fun z4 => ?_, fun z4 => stepB kl (by unfold isBl; omega)⟩⟩⟩⟩
        have nb : ¬ isBl (B k) := by unfold isBl; omega
        refine c_scanR (T := m1 139 2) b1.1 (by omega) (by rw [b1.2]; exact kl) rfl T0 (by omega) (fun e m2 u2 g2 ke eL hx2 => ?_)
        rw [b1.2] at eL
        rw [g2, jw_id (x := m1 139 2 + 1 - 1) (by omega) (by omega), show m1 139 2 + 1 - 1 = m1 139 2 by omega]
        have f2 := frx_tr f1 u2.1
        have hxo : ∀ j, 0 ≤ j → j ≤ n → j < m1 139 2 → tkX (K j) (V j) (S j) (m2 141 j) (m2 142 j) (m2 143 j) (m2 144 j) := by
          intro j j0 j1 j2
          have u := u2.2 j (by omega)
          rw [u.1, u.2.1, u.2.2.1, u.2.2.2]
          exact hx j j0 j1 j2
        have hxn : m1 139 2 ≤ n → tkX (K (m1 139 2)) (V (m1 139 2)) (S (m1 139 2)) (m2 141 (m1 139 2)) (m2 142 (m1 139 2)) (m2 143 (m1 139 2)) (m2 144 (m1 139 2)) ∧ tch B K S V (m1 139 2 + 1).toNat e := by
          intro w
          obtain ⟨e', e1, e2, e3⟩ := next w nb
          have h := hx2 _ _ _ e2
          rw [← e1]
          rw [← h.1]
          exact ⟨h.2, e3⟩
        have hxa : ∀ j, 0 ≤ j → j ≤ n → j < m1 139 2 + 1 → tkX (K j) (V j) (S j) (m2 141 j) (m2 142 j) (m2 143 j) (m2 144 j) := by
          intro j j0 j1 j2
          by_cases c : j = m1 139 2
          · rw [c]; exact (hxn (by omega)).1
          · exact hxo j j0 j1 (by omega)
        have b2 := bfr m2 f2
        refine ⟨T0, by omega, fun z5 => ?_, fun z5 => ?_⟩
        · -- no token: the end
          have all : ∀ j, 0 ≤ j → j ≤ n → tkX (K j) (V j) (S j) (m2 141 j) (m2 142 j) (m2 143 j) (m2 144 j) := by
            intro j j0 j1
            refine hxa j j0 j1 ?_
            by_cases c : m1 139 2 ≤ n
            · have k35 := (hxn c).1.2.2.2.2.2.2.1.mpr z5
              have : ¬ m1 139 2 < n := fun w => (hK (m1 139 2) T0 w).2 k35
              omega
            · omega
          refine sX11_scanAll_9 ⟨fun _ => ⟨fun _ => hQ m2 f2 all, fun w => absurd rfl w⟩, fun _ => ⟨fun _ => ⟨fun _ => hQ m2 f2 all, fun w => absurd rfl w⟩, fun w => absurd rfl w⟩⟩
        · refine ih e m2 (by omega) f2 (by omega) (by omega) eL (fun w => ?_) (fun j j0 j1 j2 => hxa j j0 j1 (by omega)) (fun w => ?_)
          · rw [g2] at w ⊢
            exact ⟨e, (hxn (by omega)).2, Int.le_refl _, fun q q0 q1 => by omega⟩
          · rw [g2] at w
            by_cases c : m1 139 2 ≤ n
            · have en : m1 139 2 = n := by omega
              rcases hE with h | h | h
              · exact h
              · -- the end is not behind a token
                have x := (hxn c)
                rw [en] at x
                have x34 := x.1
                obtain ⟨e', e1, e2, e3⟩ := next c nb
                rw [en, h] at e2
                rcases e2 with ⟨h1, -⟩ | ⟨-, -, h3⟩ | ⟨-, -, h3⟩ | ⟨-, -, -, h4, -⟩
                · have := hb.2.1 k (by omega) kl
                  omega
                · rcases h3 with h3 | ⟨-, -, h3⟩
                  · omega
                  · rcases h3 with h3 | h3 <;> omega
                · omega
                · have := ksg_in (B k) (B (k + 1))
                  omega
              · exfalso
                have x := (hxn c).1
                rw [en] at x z5
                exact z5 (x.2.2.2.2.2.2.1.mp h)
            · exact h400 (by omega)
  refine key ((m 139 0).toNat + 1) 0 _ (by omega) (frx_upF frx_rf (by decide)) (by rw [jup_s]; exact Int.le_refl _) (by rw [jup_s]; exact Int.le_refl _) t.1 (fun _ => ⟨0, by rw [jup_s]; exact rfl, Int.le_refl _, fun q q0 q1 => by omega⟩) (fun j j0 _ j2 => by rw [jup_s] at j2; omega) (fun w => by rw [jup_s] at w; omega)
