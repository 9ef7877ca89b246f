/-! conds: what they are worth -/
def stkR (f : Int → Int) : List Int → Prop
  | [] => True
  | v :: r => f r.length = v ∧ stkR f r
theorem stkR_cg {f g : Int → Int} : ∀ {s : List Int}, stkR f s → (∀ i : Int, 0 ≤ i → i < s.length → g i = f i) → stkR g s := by
  intro s
  induction s with
  | nil => intro _ _; trivial
  | cons v r ih =>
    rintro ⟨h1, h2⟩ hg
    refine ⟨?_, ih h2 (fun i i0 i1 => hg i i0 (by simp only [List.length_cons]; omega))⟩
    rw [hg r.length (by omega) (by simp only [List.length_cons]; omega)]
    exact h1
def cmb (k a b : Int) : Int := if k = 25 then jw (a + b) else if k = 26 then jw (a - b) else if k = 27 then jw (a * b) else if k = 28 then (if a = b then 1 else 0) else if k = 29 then (if a = b then 0 else 1) else if k = 30 then (if a < b then 1 else 0) else if k = 31 then (if a ≤ b then 1 else 0) else if k = 15 then jand a b else jor a b
/-- one item of the class's code -/
def cx (x : Int → Int) (c : Int) (s : List Int) : List Int :=
  if 0 ≤ c then c :: s
  else if 17 ≤ -c - 1 ∧ -c - 1 ≤ 21 then x (-c - 1 - 17) :: s
  else if -c - 1 = 16 then (match s with
    | a :: r => jw (1 - a) :: r
    | [] => [])
  else (match s with
    | b :: a :: r => cmb (-c - 1) a b :: r
    | s => s)
def cEv (f x : Int → Int) (a : Int) : Nat → List Int
  | 0 => []
  | j + 1 => cx x (f (a + j)) (cEv f x a j)
/-- a push of a value -/
def cPush (c : Int) : Prop := 0 ≤ c ∨ (17 ≤ -c - 1 ∧ -c - 1 ≤ 21)
/-- the code's stretch can be worked out -/
def cOk (f : Int → Int) (a b : Int) : Prop := 0 ≤ a ∧ a ≤ b ∧ b ≤ 400 ∧ ∀ x j, 0 ≤ j → a + ((j : Nat) : Int) < b → (-2147483648 ≤ f (a + j) ∧ f (a + j) ≤ 2147483647) ∧ (cEv f x a j).length ≤ 32 ∧ (cPush (f (a + j)) → (cEv f x a j).length < 32)
def cTop (s : List Int) : Int := s.getLastD 0
theorem stk_bot {f : Int → Int} : ∀ {s : List Int}, stkR f s → s ≠ [] → f 0 = cTop s := by
  intro s
  induction s with
  | nil => intro _ h; exact absurd rfl h
  | cons v r ih =>
    intro h _
    cases r with
    | nil => exact h.1
    | cons w r' =>
      rw [ih h.2 (by simp)]
      rfl
theorem c_combine {m : jM} {Q : Int → jM → Prop} {k a b : Int} (h : Q (cmb k a b) m) : ML iX8_combine [(0, k), (0, a), (0, b)] m Q := by
  unfold cmb at h
  refine sX8_combine ⟨fun e => ?_, fun e => ?_, fun e => ?_, fun e => ?_, fun e => ?_, fun e => ?_, fun e => ?_, fun e => ?_, fun e => ?_, fun e => ?_, fun e => ?_, fun e => ?_, fun e => ?_, fun e => ⟨fun c => ?_, fun c => ?_⟩, fun e => ⟨fun c => ?_, fun c => ?_⟩, fun e => ⟨fun c => ?_, fun c => ?_⟩, fun e => ⟨fun c => ?_, fun c => ?_⟩, fun e => ?_⟩
  all_goals first
    | (subst e; simp at h; exact h)
    | (subst e; simp [c] at h; exact h)
    | (subst e; rw [if_neg (by decide), if_neg (by decide), if_neg (by decide), if_neg (by decide), if_neg (by decide), if_pos rfl, if_neg (by omega)] at h; exact h)
    | (subst e; rw [if_neg (by decide), if_neg (by decide), if_neg (by decide), if_neg (by decide), if_neg (by decide), if_pos rfl, if_pos (by omega)] at h; exact h)
    | (subst e; rw [if_neg (by decide), if_neg (by decide), if_neg (by decide), if_neg (by decide), if_neg (by decide), if_neg (by decide), if_pos rfl, if_neg (by omega)] at h; exact h)
    | (subst e; rw [if_neg (by decide), if_neg (by decide), if_neg (by decide), if_neg (by decide), if_neg (by decide), if_neg (by decide), if_pos rfl, if_pos (by omega)] at h; exact h)
    | (subst e; rw [if_neg (by decide), if_neg (by decide), if_neg (by decide), if_pos rfl, if_pos (Classical.byContradiction c)] at h; exact h)
    | (subst e; rw [if_neg (by decide), if_neg (by decide), if_neg (by decide), if_neg (by decide), if_pos rfl, if_neg c] at h; exact h)
    | (rw [if_neg (by omega), if_neg (by omega), if_neg (by omega), if_neg (by omega), if_neg (by omega), if_neg (by omega), if_neg (by omega), if_neg (by omega)] at h; exact h)
theorem c_holds {m : jM} {Q : Int → jM → Prop} {t a b : Int} {x : Int → Int} (ht : jTx t) (hok : cOk (m (t + 9)) a b) (hx : ∀ i, 0 ≤ i → i < 5 → m 26 i = x i) (hQ : ∀ m', fr [(t + 11)] m m' → Q (if cTop (cEv (m (t + 9)) x a (b - a).toNat) ≠ 0 then 1 else 0) m') : ML iX8_holds [(2, t), (0, a), (0, b), (2, 26)] m Q := by
  obtain ⟨a0, ab, b4, hj⟩ := hok
  have tr := jTx_rng ht
  refine sX8_holds ht ?_
  refine lup2 (n := b) (I := fun i m1 (top : Int) => a ≤ i ∧ i ≤ b ∧ fr [(t + 11)] m m1 ∧ top = ((cEv (m (t + 9)) x a (i - a).toNat).length : Int) ∧ (cEv (m (t + 9)) x a (i - a).toNat).length ≤ 32 ∧ stkR (m1 (t + 11)) (cEv (m (t + 9)) x a (i - a).toNat)) (G := fun i m1 top => GL iX8_holds m1 6 [(2, t), (9, 0), (0, b), (2, 26), (0, top), (0, i), (9, 0)] [] Q) ?_ ?_ a m 0 ⟨Int.le_refl _, ab, fr_rf, by rw [Int.sub_self]; rfl, by rw [Int.sub_self]; exact Nat.zero_le _, by rw [Int.sub_self]; trivial⟩
  · rintro i m1 top hi ⟨i0, i1, hf, rfl, hlen, hs⟩ K
    have ec : m1 (t + 9) = m (t + 9) := hf _ (by simp only [List.mem_cons, List.not_mem_nil, or_false]; omega)
    have ev : m1 26 = m 26 := hf _ (by simp only [List.mem_cons, List.not_mem_nil, or_false]; omega)
    have hji := hj x (i - a).toNat (Nat.zero_le _) (by omega)
    have hit : a + (((i - a).toNat : Nat) : Int) = i := by omega
    rw [hit] at hji
    have nx : cEv (m (t + 9)) x a (i + 1 - a).toNat = cx x (m (t + 9) i) (cEv (m (t + 9)) x a (i - a).toNat) := by
      rw [show (i + 1 - a).toNat = (i - a).toNat + 1 by omega]
      simp only [cEv]
      rw [hit]
    generalize hsg : cEv (m (t + 9)) x a (i - a).toNat = s at *
    generalize hcg : m (t + 9) i = c at *
    -- a push
    have push : ∀ v, (0 ≤ c ∧ v = c ∨ 17 ≤ -c - 1 ∧ -c - 1 ≤ 21 ∧ v = x (-c - 1 - 17)) → cPush c → GL iX8_holds (jup m1 (t + 11) s.length v) 6 [(2, t), (9, 0), (0, b), (2, 26), (0, (s.length : Int) + 1), (0, i + 1), (9, 0)] [] Q := by
      intro v hv hp
      have hlt := hji.2.2 hp
      have e : cx x c s = v :: s := by
        unfold cx
        rcases hv with ⟨h1, rfl⟩ | ⟨h1, h2, rfl⟩
        · rw [if_pos h1]
        · rw [if_neg (by omega), if_pos ⟨h1, h2⟩]
      refine K _ _ ⟨by omega, by omega, fr_up (p := t + 11) hf (by simp), ?_, ?_, ?_⟩
      · rw [nx, e, List.length_cons]; omega
      · rw [nx, e, List.length_cons]; omega
      · rw [nx, e]
        refine ⟨jup_s, stkR_cg hs (fun k k0 k1 => ?_)⟩
        rw [jup_self, if_neg (by omega)]
    have at47 : cPush c → GL iX8_holds m1 47 [(2, t), (9, 0), (0, b), (2, 26), (0, (s.length : Int)), (0, i), (0, -c - 1)] [] Q := by
      intro hp
      have hlt := hji.2.2 hp
      refine sX8_holds_47 ht ?_
      rw [ec, hcg, ev, jw_id (x := i + 1) (by omega) (by omega), jw_id (x := (s.length : Int) + 1) (by omega) (by omega)]
      refine ⟨fun z => absurd z (by omega), fun _ => ⟨by omega, by omega, fun z => ?_, fun z => ⟨by omega, by omega, by omega, by omega, push c (Or.inl ⟨by omega, rfl⟩) hp⟩⟩⟩
      have h2 : 17 ≤ -c - 1 ∧ -c - 1 ≤ 21 := by
        rcases hp with y | y
        · omega
        · exact y
      rw [jw_id (x := -c - 1 - 17) (by omega) (by omega), hx _ (by omega) (by omega)]
      exact ⟨by omega, by omega, by omega, by omega, push _ (Or.inr ⟨h2.1, h2.2, rfl⟩) hp⟩
    have at37 : (¬ (17 ≤ -c - 1 ∧ -c - 1 ≤ 21)) → GL iX8_holds m1 37 [(2, t), (9, 0), (0, b), (2, 26), (0, (s.length : Int)), (0, i), (0, -c - 1)] [] Q := by
      intro hn
      refine sX8_holds_37 ht ?_
      rw [ec, hcg, jw_id (x := i + 1) (by omega) (by omega), jw_id (x := (s.length : Int) + -1) (by omega) (by omega), jw_id (x := (s.length : Int) + -1 - 1) (by omega) (by omega), jw_id (x := (s.length : Int) - 1) (by omega) (by omega)]
      refine ⟨by omega, by omega, fun z => ?_, fun z => at47 (Or.inl (by omega))⟩
      have hsmall : s.length < 2 → -c - 1 ≠ 16 ∨ s.length < 1 → GL iX8_holds m1 6 [(2, t), (9, 0), (0, b), (2, 26), (0, (s.length : Int)), (0, i + 1), (9, 0)] [] Q := by
        intro h2 hor
        have e : cx x c s = s := by
          unfold cx
          rw [if_neg (by omega), if_neg hn]
          match s, h2, hor with
          | [], _, _ => split <;> rfl
          | [v], _, hor =>
            rw [if_neg (by simp only [List.length_cons, List.length_nil] at hor; omega)]
        exact K _ _ ⟨by omega, by omega, hf, by rw [nx, e], by rw [nx, e]; exact hlen, by rw [nx, e]; exact hs⟩
      have hbin : 2 ≤ s.length → -c - 1 ≠ 16 → 0 ≤ (s.length : Int) + -1 - 1 ∧ (s.length : Int) + -1 - 1 < 32 ∧ 0 ≤ (s.length : Int) + -1 ∧ (s.length : Int) + -1 < 32 ∧ ML iX8_combine [(0, -c - 1), (0, m1 (t + 11) ((s.length : Int) + -1 - 1)), (0, m1 (t + 11) ((s.length : Int) + -1))] m1 (fun r m12 => 0 ≤ (s.length : Int) + -1 - 1 ∧ (s.length : Int) + -1 - 1 < 32 ∧ GL iX8_holds (jup m12 (t + 11) ((s.length : Int) + -1 - 1) r) 6 [(2, t), (9, 0), (0, b), (2, 26), (0, (s.length : Int) + -1), (0, i + 1), (9, 0)] [] Q) := by
        intro h2 h16
        match s, h2, hs, hlen, nx with
        | v :: w :: r, _, hs, hlen, nx =>
          simp only [List.length_cons] at hlen ⊢
          have e1 : m1 (t + 11) (((r.length + 1 + 1 : Nat) : Int) + -1) = v := by
            have := hs.1
            simp only [List.length_cons] at this
            rw [show ((r.length + 1 + 1 : Nat) : Int) + -1 = ((r.length + 1 : Nat) : Int) by omega]
            exact this
          have e2 : m1 (t + 11) (((r.length + 1 + 1 : Nat) : Int) + -1 - 1) = w := by
            rw [show ((r.length + 1 + 1 : Nat) : Int) + -1 - 1 = (r.length : Int) by omega]
            exact hs.2.1
          rw [e1, e2]
          refine ⟨by omega, by omega, by omega, by omega, c_combine ⟨by omega, by omega, ?_⟩⟩
          have e : cx x c (v :: w :: r) = cmb (-c - 1) w v :: r := by
            unfold cx
            rw [if_neg (by omega), if_neg hn, if_neg h16]
          refine K _ _ ⟨by omega, by omega, fr_up (p := t + 11) hf (by simp), ?_, ?_, ?_⟩
          · rw [nx, e, List.length_cons]; omega
          · rw [nx, e, List.length_cons]; omega
          · rw [nx, e]
            refine ⟨?_, stkR_cg hs.2.2 (fun k k0 k1 => ?_)⟩
            · rw [jup_self, if_pos (by omega)]
            · rw [jup_self, if_neg (by omega)]
      refine ⟨fun z16 => ⟨fun z2 => hsmall (by omega) (Or.inl z16), fun z2 => hbin (by omega) z16⟩, fun z16 => ⟨fun z1 => ⟨fun z2 => hsmall (by omega) (Or.inr (by omega)), fun z2 => absurd z1 (by omega)⟩, fun z1 => ⟨by omega, by omega, by omega, by omega, ?_⟩⟩⟩
      have h16 : -c - 1 = 16 := Classical.byContradiction z16
      match s, z1, hs, hlen, nx with
      | [], z1, _, _, _ => exact absurd z1 (by simp)
      | v :: r, _, hs, hlen, nx =>
        simp only [List.length_cons] at hlen ⊢
        have e1 : m1 (t + 11) (((r.length + 1 : Nat) : Int) - 1) = v := by
          rw [show ((r.length + 1 : Nat) : Int) - 1 = (r.length : Int) by omega]
          exact hs.1
        rw [e1]
        have e : cx x c (v :: r) = jw (1 - v) :: r := by
          unfold cx
          rw [if_neg (by omega), if_neg hn, if_pos h16]
        refine K _ _ ⟨by omega, by omega, fr_up (p := t + 11) hf (by simp), ?_, ?_, ?_⟩
        · rw [nx, e, List.length_cons]
        · rw [nx, e, List.length_cons]; omega
        · rw [nx, e]
          refine ⟨?_, stkR_cg hs.2 (fun k k0 k1 => ?_)⟩
          · rw [jup_self, if_pos (by omega)]
          · rw [jup_self, if_neg (by omega)]
    refine sX8_holds_6 ht ?_
    rw [ec, hcg, jnot (by omega)]
    exact ⟨fun z => absurd z (by omega), fun _ => ⟨by omega, by omega, fun z => at37 (by omega), fun z => ⟨fun z2 => at47 (Or.inr (by omega)), fun z2 => at37 (by omega)⟩⟩⟩
  · rintro i m1 top hi ⟨i0, i1, hf, rfl, hlen, hs⟩
    obtain rfl : i = b := by omega
    have hq := hQ m1 hf
    generalize cEv (m (t + 9)) x a (i - a).toNat = s at *
    refine sX8_holds_6 ht ⟨fun _ => ⟨fun z => ?_, fun z => ?_⟩, fun z => absurd (Int.le_refl _) z⟩
    · have : s = [] := List.eq_nil_of_length_eq_zero (by omega)
      subst this
      exact hq
    · have e : m1 (t + 11) 0 = cTop s := stk_bot hs (by rintro rfl; exact z (by simp))
      rw [e]
      refine ⟨fun z2 => ?_, fun z2 => ?_⟩
      · rw [if_neg (fun y => y z2)] at hq; exact hq
      · rw [if_pos z2] at hq; exact hq
