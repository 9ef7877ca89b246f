/-! the class's scanner -/
def Bc (m : jM) : Int → Int := fun i => if 0 ≤ i ∧ i < m 2 1 then m 3 i else -1
def bcI (m : jM) : Prop := (0 ≤ m 2 1 ∧ m 2 1 ≤ 2000) ∧ ∀ i, 0 ≤ i → i < m 2 1 → 0 ≤ m 3 i ∧ m 3 i ≤ 255
theorem Bc_out {m : jM} {p : Int} (h : m 2 1 ≤ p) : Bc m p = -1 := by unfold Bc; rw [if_neg (by omega)]
theorem Bc_in {m : jM} (hb : bcI m) {p : Int} (p0 : 0 ≤ p) (h : Bc m p = -1) : m 2 1 ≤ p := by
  apply Classical.byContradiction
  intro w
  unfold Bc at h
  rw [if_pos ⟨p0, by omega⟩] at h
  have := (hb.2 p p0 (by omega)).1
  omega
theorem Bc_bd {m : jM} (hb : bcI m) (p : Int) : -1 ≤ Bc m p ∧ Bc m p ≤ 255 := by
  unfold Bc
  split
  · rename_i h
    have := hb.2 p h.1 h.2
    omega
  · decide
theorem nBl : ¬ isBl (-1) := by unfold isBl; omega
theorem nLe : ¬ isLe (-1) := by unfold isLe; omega
theorem nDi : ¬ isDi (-1) := by unfold isDi; omega
/-- a run stays within the tape -/
theorem run_in {m : jM} {P : Int → Prop} {p e : Int} (h : isRun (Bc m) P p e) (hP : ¬ P (-1)) (hp : p ≤ m 2 1) : e ≤ m 2 1 := by
  apply Classical.byContradiction
  intro w
  have := h.2.1 (m 2 1) hp (by omega)
  rw [Bc_out (Int.le_refl _)] at this
  exact hP this
theorem tkC_in {m : jM} {p kd vl e : Int} (hb : bcI m) (p0 : 0 ≤ p) (p1 : p ≤ m 2 1) (h : tkC (Bc m) p kd vl e) : p ≤ e ∧ e ≤ m 2 1 ∧ (kd ≠ 34 → p < e) ∧ 0 ≤ kd ∧ kd ≤ 35 ∧ (kd = 34 → p = m 2 1) := by
  rcases h with ⟨h1, h2, h3⟩ | ⟨h1, h2, h3⟩ | ⟨h1, h2, h3⟩ | ⟨h1, h2, h3, h4, h5⟩
  · have := Bc_in hb p0 h1
    omega
  · have r := run_in h2 nLe p1
    have : p ≠ e := fun w => h2.2.2 (w ▸ h1)
    have q := h2.1
    refine ⟨q, r, fun _ => by omega, ?_⟩
    rcases h3 with w | ⟨-, -, w⟩
    · omega
    · rcases w with w | w <;> omega
  · have r := run_in h2 nDi p1
    have : p ≠ e := fun w => h2.2.2 (w ▸ h1)
    have q := h2.1
    refine ⟨q, r, fun _ => by omega, ?_⟩
    rcases h3 with w | w <;> omega
  · have k := ksg_in (Bc m p) (Bc m (p + 1))
    have pl : p < m 2 1 := by
      apply Classical.byContradiction
      intro w
      exact h1 (Bc_out (by omega))
    rw [← h4] at k
    have two : kd = 28 ∨ kd = 29 ∨ kd = 31 → p + 1 < m 2 1 := by
      intro w
      apply Classical.byContradiction
      intro w2
      have : Bc m (p + 1) = -1 := Bc_out (by omega)
      rw [this] at h4
      unfold ksg at h4
      have hh : ¬ ((-1 : Int) = 61) := by decide
      simp only [if_neg hh] at h4
      (repeat' split at h4) <;> omega
    split at h5
    · rename_i w
      have := two w
      omega
    · omega
theorem c_byteC {m : jM} {Q : Int → jM → Prop} {a : Int} (hb : bcI m) (hQ : Q (Bc m a) m) : ML iX6_byteAt [(2, 2), (0, a)] m Q := by
  have t := hb.1
  unfold Bc at hQ
  refine sX6_byteAt ⟨fun z => ?_, fun z => ⟨fun z2 => ?_, fun z2 => ⟨by omega, by omega, ?_⟩⟩⟩
  · rw [if_neg (by omega)] at hQ; exact hQ
  · rw [if_neg (by omega)] at hQ; exact hQ
  · rw [if_pos ⟨by omega, by omega⟩] at hQ; exact hQ
theorem c_blankC {m : jM} {Q : Int → jM → Prop} {a : Int} (hQ : ∀ r, (isBl a → r = 1) → (¬ isBl a → r = 0) → Q r m) : ML iX6_isBlank [(0, a)] m Q := by
  unfold isBl at hQ
  exact sX6_isBlank ⟨fun z => hQ 1 (fun _ => rfl) (fun w => by omega), fun z => ⟨fun z2 => hQ 1 (fun _ => rfl) (fun w => by omega), fun z2 => ⟨fun z3 => hQ 1 (fun _ => rfl) (fun w => by omega), fun z3 => ⟨fun z4 => hQ 0 (fun w => by omega) (fun _ => rfl), fun z4 => hQ 1 (fun _ => rfl) (fun w => by omega)⟩⟩⟩⟩
theorem c_letterC {m : jM} {Q : Int → jM → Prop} {a : Int} (hQ : ∀ r, (isLe a → r = 1) → (¬ isLe a → r = 0) → Q r m) : ML iX6_isLetter [(0, a)] m Q := by
  unfold isLe at hQ
  exact sX6_isLetter ⟨fun z => hQ 0 (fun w => by omega) (fun _ => rfl), fun z => ⟨fun z2 => hQ 0 (fun w => by omega) (fun _ => rfl), fun z2 => hQ 1 (fun _ => rfl) (fun w => by omega)⟩⟩
theorem c_digitC {m : jM} {Q : Int → jM → Prop} {a : Int} (hQ : ∀ r, (isDi a → r = 1) → (¬ isDi a → r = 0) → Q r m) : ML iX6_isDigit [(0, a)] m Q := by
  unfold isDi at hQ
  exact sX6_isDigit ⟨fun z => hQ 0 (fun w => by omega) (fun _ => rfl), fun z => ⟨fun z2 => hQ 0 (fun w => by omega) (fun _ => rfl), fun z2 => hQ 1 (fun _ => rfl) (fun w => by omega)⟩⟩
theorem c_kindOfSign {m : jM} {Q : Int → jM → Prop} {a b : Int} (hQ : Q (ksg a b) m) : ML iX6_kindOfSign [(0, a), (0, b)] m Q := by
  have key : ∀ k, ksg a b = k → Q k m := fun k h => h ▸ hQ
  unfold ksg at key
  refine sX6_kindOfSign ⟨fun e => ?_, fun e => ?_, fun e => ?_, fun e => ?_, fun e => ?_, fun e => ?_, fun e => ?_, fun e => ?_, fun e => ?_, fun e => ?_, fun e => ?_, fun e => ?_, fun e => ?_, fun e => ?_, fun e => ?_, fun e => ?_, fun e => ?_, fun e => ?_, fun e => ?_, fun e => ?_, fun e => ?_, fun e => ?_, fun e => ?_, fun e => ?_, fun e => ?_, fun e => ?_, fun e => ?_, fun e => ?_, fun e => ?_, fun e => ?_⟩
  all_goals first
    | (refine ⟨fun c => key _ ?_, fun c => key _ ?_⟩ <;> subst e <;> simp [c] <;> omega)
    | (apply key; subst e; rfl)
    | (apply key; rw [if_neg (by omega), if_neg (by omega), if_neg (by omega), if_neg (by omega), if_neg (by omega), if_neg (by omega), if_neg (by omega), if_neg (by omega), if_neg (by omega)])
theorem c_skipBlanks {m : jM} {Q : Int → jM → Prop} {a : Int} (hb : bcI m) (a0 : 0 ≤ a) (a1 : a ≤ m 2 1) (hQ : ∀ e, isRun (Bc m) isBl a e → e ≤ m 2 1 → Q e m) : ML iX6_skipBlanks [(2, 2), (0, a)] m Q := by
  have t := hb.1
  refine sX6_skipBlanks ?_
  refine lup (n := m 2 1) (I := fun x (m1 : jM) => a ≤ x ∧ x ≤ m 2 1 ∧ m1 = m ∧ ∀ q, a ≤ q → q < x → isBl (Bc m q)) (G := fun x m1 => GL iX6_skipBlanks m1 2 [(2, 2), (9, 0), (0, x)] [] Q) ?_ ?_ a m ⟨Int.le_refl _, a1, rfl, fun q q0 q1 => by omega⟩
  · rintro x m1 hx ⟨x0, x1, rfl, h1⟩ K
    refine sX6_skipBlanks_2 ⟨fun z => absurd z (by omega), fun _ => c_byteC hb (c_blankC (fun r r1 r0 => ⟨fun z => hQ x ⟨x0, h1, fun w => by have := r1 w; omega⟩ x1, fun z => ?_⟩))⟩
    rw [jw_id (x := x + 1) (by omega) (by omega)]
    refine K m1 ⟨by omega, by omega, rfl, fun q q0 q1 => ?_⟩
    by_cases e : q = x
    · rw [e]; exact Classical.byContradiction (fun w => z (r0 w))
    · exact h1 q q0 (by omega)
  · rintro x m1 hx ⟨x0, x1, rfl, h1⟩
    exact sX6_skipBlanks_2 ⟨fun _ => hQ x ⟨x0, h1, by rw [Bc_out hx]; exact nBl⟩ x1, fun z => absurd hx z⟩
theorem jcmp_ne {a b : Int} : jcmp a b ≠ 0 ↔ a ≠ b := by
  unfold jcmp
  split
  · constructor <;> intro <;> omega
  · split
    · constructor <;> intro h <;> omega
    · constructor <;> intro <;> omega
theorem c_kindOfWord {m : jM} {Q : Int → jM → Prop} {l : List Int} (hw : wkI m) (hl : okW l) (hQ : ∀ k, kdW l k → Q k m) : ML iX6_kindOfWord [(2, 2), (1, vB 32 l)] m Q := by
  refine sX6_kindOfWord ?_
  refine lup (n := 22) (I := fun i (m1 : jM) => 0 ≤ i ∧ i ≤ 22 ∧ m1 = m ∧ ∀ j, 0 ≤ j → j < i → wd j ≠ l) (G := fun i m1 => GL iX6_kindOfWord m1 2 [(2, 2), (1, vB 32 l), (9, 0), (0, i)] [] Q) ?_ ?_ 0 m ⟨by decide, by decide, rfl, fun j j0 j1 => by omega⟩
  · rintro i m1 hi ⟨i0, -, rfl, h1⟩ K
    have wi := wd_in i0 hi
    refine sX6_kindOfWord_2 ?_
    rw [hw i i0 hi, jw_id (x := i + 1) (by omega) (by omega)]
    refine ⟨fun z => absurd z (by omega), fun _ => ⟨i0, hi, fun z => K m1 ⟨by omega, by omega, rfl, fun j j0 j1 => ?_⟩, fun z => hQ i (Or.inl ⟨i0, hi, ?_⟩)⟩⟩
    · by_cases e : j = i
      · rw [e]; exact fun w => jcmp_ne.mp z (by rw [w])
      · exact h1 j j0 (by omega)
    · exact vB_inj (by decide) wi.1 hl.1 (Classical.byContradiction (fun w => z (jcmp_ne.mpr w)))
  · rintro i m1 hi ⟨i0, i1, rfl, h1⟩
    obtain rfl : i = 22 := by omega
    exact sX6_kindOfWord_2 ⟨fun _ => hQ 22 (Or.inr ⟨rfl, h1⟩), fun z => absurd hi z⟩
/-- one token was written -/
def tkU (i : Int) (m m' : jM) : Prop := (∀ q, q ≠ 4 → q ≠ 6 → m' q = m q) ∧ ∀ j, j ≠ i → m' 4 j = m 4 j ∧ m' 6 j = m 6 j
theorem tkU_b {i : Int} {m m' : jM} (h : tkU i m m') : Bc m' = Bc m ∧ (bcI m → bcI m') ∧ (wkI m → wkI m') ∧ m' 2 1 = m 2 1 := by
  unfold Bc bcI wkI
  rw [h.1 2 (by decide) (by decide), h.1 3 (by decide) (by decide), h.1 7 (by decide) (by decide)]
  exact ⟨rfl, id, id, rfl⟩
theorem tkU_4 {i x : Int} {m m' : jM} (h : tkU i m m') : tkU i m (jup m' 4 i x) := ⟨fun q a b => by rw [jup_ne a]; exact h.1 q a b, fun j hj => ⟨by rw [jup_self, if_neg hj]; exact (h.2 j hj).1, by rw [jup_ne (by decide)]; exact (h.2 j hj).2⟩⟩
theorem tkU_6 {i x : Int} {m m' : jM} (h : tkU i m m') : tkU i m (jup m' 6 i x) := ⟨fun q a b => by rw [jup_ne b]; exact h.1 q a b, fun j hj => ⟨by rw [jup_ne (by decide)]; exact (h.2 j hj).1, by rw [jup_self, if_neg hj]; exact (h.2 j hj).2⟩⟩
theorem tkU_rf {i : Int} {m : jM} : tkU i m m := ⟨fun _ _ _ => rfl, fun _ _ => ⟨rfl, rfl⟩⟩
theorem vB8 {l : List Int} (h : ∀ c ∈ l, 1 ≤ c ∧ c ≤ 26) (hn : l.length ≤ 8) : 0 ≤ vB 32 l ∧ vB 32 l < 1099511627776 := by
  have h1 := vB_lt (b := 32) (by decide) h
  have h2 : (32 : Int) ^ l.length ≤ 32 ^ 8 := by
    have : (32 : Nat) ^ l.length ≤ 32 ^ 8 := Nat.pow_le_pow_right (by decide) hn
    exact_mod_cast this
  have h3 : (32 : Int) ^ 8 = 1099511627776 := by decide
  exact ⟨(vB_pos (by decide) h).1, by omega⟩
theorem c_scanWord {m : jM} {Q : Int → jM → Prop} {i p : Int} (hb : bcI m) (hw : wkI m) (i0 : 0 ≤ i) (i1 : i < 401) (p0 : 0 ≤ p) (p1 : p ≤ m 2 1) (hv : m 6 i = 0) (hl : isLe (Bc m p)) (hQ : ∀ e m', tkU i m m' → tkC (Bc m) p (m' 4 i) (m' 6 i) e → Q e m') : ML iX6_scanWord [(2, 2), (0, i), (0, p)] m Q := by
  have t := hb.1
  refine sX6_scanWord ?_
  -- the word's end
  have fin : ∀ x m1, p ≤ x → x ≤ m 2 1 → tkU i m m1 → isRun (Bc m) isLe p x → (x - p ≤ 8 → m1 6 i = vB 32 (ltR (Bc m) p (x - p).toNat)) → ((x - p ≤ 8 → (0 ≤ i ∧ i < 401 ∧ ML iX6_kindOfWord [(2, 2), (1, (m1 6 i))] m1 (fun r6 m7 => (0 ≤ i ∧ i < 401 ∧ Q x (jup m7 4 i r6))))) ∧ (¬ (x - p ≤ 8) → (0 ≤ i ∧ i < 401 ∧ Q x (jup m1 4 i 35)))) := by
    intro x m1 x0 x1 f1 hr hv1
    have ok := ltR_ok (B := Bc m) (p := p) (n := (x - p).toNat) (fun q a b => hr.2.1 q a (by omega))
    refine ⟨fun z => ⟨i0, i1, ?_⟩, fun z => ⟨i0, i1, hQ x _ (tkU_4 f1) (Or.inr (Or.inl ⟨hl, hr, Or.inl ⟨by omega, by rw [jup_s]⟩⟩))⟩⟩
    rw [hv1 z]
    refine c_kindOfWord ((tkU_b f1).2.2.1 hw) ⟨ok.1, by omega⟩ (fun k hk => ⟨i0, i1, hQ x _ (tkU_4 f1) (Or.inr (Or.inl ⟨hl, hr, Or.inr ⟨z, ?_, ?_⟩⟩))⟩)
    · rw [jup_ne (by decide)]; exact hv1 z
    · rw [jup_s]; exact hk
  refine lup (n := m 2 1) (I := fun x m1 => p ≤ x ∧ x ≤ m 2 1 ∧ tkU i m m1 ∧ (∀ q, p ≤ q → q < x → isLe (Bc m q)) ∧ (x - p ≤ 8 → m1 6 i = vB 32 (ltR (Bc m) p (x - p).toNat))) (G := fun x m1 => GL iX6_scanWord m1 2 [(2, 2), (0, i), (0, p), (0, x)] [] Q) ?_ ?_ p m ⟨Int.le_refl _, p1, tkU_rf, fun q q0 q1 => by omega, fun _ => by rw [Int.sub_self]; exact hv⟩
  · rintro x m1 hx ⟨x0, -, f1, h1, hv1⟩ K
    have tb_ := tkU_b f1
    have hb1 := tb_.2.1 hb
    refine sX6_scanWord_2 ?_
    rw [tb_.2.2.2, jw_id (x := x - p) (by omega) (by omega), jw_id (x := x + 1) (by omega) (by omega)]
    refine ⟨fun z => absurd z (by omega), fun _ => c_byteC hb1 (c_letterC (fun r r1 r0 => ⟨fun z => fin x m1 x0 (by omega) f1 ⟨x0, h1, fun w => ?_⟩ hv1, fun z => ⟨i0, i1, c_byteC hb1 (sX6_withLetter ⟨i0, i1, K _ ⟨by omega, by omega, tkU_6 f1, fun q q0 q1 => ?_, fun z2 => ?_⟩⟩)⟩⟩))⟩
    · rw [tb_.1] at r1
      have := r1 w
      omega
    · rw [tb_.1] at r0
      by_cases e : q = x
      · rw [e]; exact Classical.byContradiction (fun w => z (r0 w))
      · exact h1 q q0 (by omega)
    · rw [tb_.1] at r0
      rw [tb_.1, jup_s, hv1 (by omega)]
      have lx : isLe (Bc m x) := Classical.byContradiction (fun w => z (r0 w))
      have ok := ltR_ok (B := Bc m) (p := p) (n := (x - p).toNat) (fun q a b => h1 q a (by omega))
      have v8 := vB8 ok.1 (by omega)
      unfold isLe at lx
      rw [show (x + 1 - p).toNat = (x - p).toNat + 1 by omega]
      simp only [ltR, vB]
      rw [show p + (((x - p).toNat : Nat) : Int) = x by omega]
      generalize vB 32 (ltR (Bc m) p (x - p).toNat) = y at *
      rw [jw64_id (x := y * 32) (by omega) (by omega), jw64_id (x := y * 32 + Bc m x) (by omega) (by omega), jw64_id (x := y * 32 + Bc m x - 97) (by omega) (by omega), jw64_id (by omega) (by omega)]
      omega
  · rintro x m1 hx ⟨x0, x1, f1, h1, hv1⟩
    obtain rfl : x = m 2 1 := by omega
    have tb_ := tkU_b f1
    refine sX6_scanWord_2 ?_
    rw [tb_.2.2.2, jw_id (x := m 2 1 - p) (by omega) (by omega)]
    exact ⟨fun _ => fin _ m1 x0 x1 f1 ⟨x0, h1, by rw [Bc_out (Int.le_refl _)]; exact nLe⟩ hv1, fun z => absurd (Int.le_refl _) z⟩
theorem c_scanInt {m : jM} {Q : Int → jM → Prop} {i p : Int} (hb : bcI m) (i0 : 0 ≤ i) (i1 : i < 401) (p0 : 0 ≤ p) (p1 : p ≤ m 2 1) (hv : m 6 i = 0) (hl : isDi (Bc m p)) (hQ : ∀ e m', tkU i m m' → tkC (Bc m) p (m' 4 i) (m' 6 i) e → Q e m') : ML iX6_scanInt [(2, 2), (0, i), (0, p)] m Q := by
  have t := hb.1
  refine sX6_scanInt ?_
  have fin : ∀ x m1, p ≤ x → x ≤ m 2 1 → tkU i m m1 → isRun (Bc m) isDi p x → (x - p ≤ 4 → m1 6 i = dgR (Bc m) p (x - p).toNat) → ((x - p ≤ 4 → (0 ≤ i ∧ i < 401 ∧ Q x (jup m1 4 i 23))) ∧ (¬ (x - p ≤ 4) → (0 ≤ i ∧ i < 401 ∧ Q x (jup m1 4 i 35)))) := by
    intro x m1 x0 x1 f1 hr hv1
    refine ⟨fun z => ⟨i0, i1, hQ x _ (tkU_4 f1) (Or.inr (Or.inr (Or.inl ⟨hl, hr, Or.inr ⟨z, by rw [jup_s], ?_⟩⟩)))⟩, fun z => ⟨i0, i1, hQ x _ (tkU_4 f1) (Or.inr (Or.inr (Or.inl ⟨hl, hr, Or.inl ⟨by omega, by rw [jup_s]⟩⟩)))⟩⟩
    rw [jup_ne (by decide)]
    exact hv1 z
  refine lup (n := m 2 1) (I := fun x m1 => p ≤ x ∧ x ≤ m 2 1 ∧ tkU i m m1 ∧ (∀ q, p ≤ q → q < x → isDi (Bc m q)) ∧ (x - p ≤ 4 → m1 6 i = dgR (Bc m) p (x - p).toNat)) (G := fun x m1 => GL iX6_scanInt m1 2 [(2, 2), (0, i), (0, p), (0, x)] [] Q) ?_ ?_ p m ⟨Int.le_refl _, p1, tkU_rf, fun q q0 q1 => by omega, fun _ => by rw [Int.sub_self]; exact hv⟩
  · rintro x m1 hx ⟨x0, -, f1, h1, hv1⟩ K
    have tb_ := tkU_b f1
    have hb1 := tb_.2.1 hb
    refine sX6_scanInt_2 ?_
    rw [tb_.2.2.2, jw_id (x := x - p) (by omega) (by omega), jw_id (x := x + 1) (by omega) (by omega)]
    refine ⟨fun z => absurd z (by omega), fun _ => c_byteC hb1 (c_digitC (fun r r1 r0 => ⟨fun z => fin x m1 x0 (by omega) f1 ⟨x0, h1, fun w => ?_⟩ hv1, fun z => ⟨i0, i1, c_byteC hb1 ⟨i0, i1, K _ ⟨by omega, by omega, tkU_6 f1, fun q q0 q1 => ?_, fun z2 => ?_⟩⟩⟩⟩))⟩
    · rw [tb_.1] at r1
      have := r1 w
      omega
    · rw [tb_.1] at r0
      by_cases e : q = x
      · rw [e]; exact Classical.byContradiction (fun w => z (r0 w))
      · exact h1 q q0 (by omega)
    · rw [tb_.1] at r0
      rw [tb_.1, jup_s, hv1 (by omega)]
      have lx : isDi (Bc m x) := Classical.byContradiction (fun w => z (r0 w))
      have dg := dgR_in (B := Bc m) (p := p) (n := (x - p).toNat) (fun q a b => h1 q a (by omega))
      have d4 : (10 : Int) ^ (x - p).toNat ≤ 10 ^ 4 := by
        have : (10 : Nat) ^ (x - p).toNat ≤ 10 ^ 4 := Nat.pow_le_pow_right (by decide) (by omega)
        exact_mod_cast this
      have d5 : (10 : Int) ^ 4 = 10000 := by decide
      unfold isDi at lx
      rw [show (x + 1 - p).toNat = (x - p).toNat + 1 by omega]
      simp only [dgR]
      rw [show p + (((x - p).toNat : Nat) : Int) = x by omega]
      generalize dgR (Bc m) p (x - p).toNat = y at *
      rw [jw64_id (x := y * 10) (by omega) (by omega), jw64_id (x := y * 10 + Bc m x) (by omega) (by omega), jw64_id (by omega) (by omega)]
  · rintro x m1 hx ⟨x0, x1, f1, h1, hv1⟩
    obtain rfl : x = m 2 1 := by omega
    have tb_ := tkU_b f1
    refine sX6_scanInt_2 ?_
    rw [tb_.2.2.2, jw_id (x := m 2 1 - p) (by omega) (by omega)]
    exact ⟨fun _ => fin _ m1 x0 x1 f1 ⟨x0, h1, by rw [Bc_out (Int.le_refl _)]; exact nDi⟩ hv1, fun z => absurd (Int.le_refl _) z⟩
theorem c_scanToken {m : jM} {Q : Int → jM → Prop} {i p : Int} (hb : bcI m) (hw : wkI m) (i0 : 0 ≤ i) (i1 : i < 401) (p0 : 0 ≤ p) (p1 : p ≤ m 2 1) (hQ : ∀ e m', tkU i m m' → tkC (Bc m) p (m' 4 i) (m' 6 i) e → Q e m') : ML iX6_scanToken [(2, 2), (0, i), (0, p)] m Q := by
  have t := hb.1
  have f0 : tkU i m (jup m 6 i 0) := tkU_6 tkU_rf
  have tb_ := tkU_b f0
  have hb1 := tb_.2.1 hb
  have bd := Bc_bd hb p
  refine sX6_scanToken (c_byteC hb ⟨i0, i1, fun z => c_letterC (fun r r1 r0 => ⟨fun z1 => c_digitC (fun s s1 s0 => ⟨fun z2 => ?_, fun z2 => ?_⟩), fun z1 => ?_⟩), fun z => ⟨i0, i1, hQ p _ (tkU_4 f0) (Or.inl ⟨Classical.byContradiction z, by rw [jup_s], rfl⟩)⟩⟩)
  · rw [jw_id (x := p + 1) (by omega) (by omega), jw_id (x := p + 2) (by omega) (by omega)]
    refine c_byteC hb1 (c_kindOfSign ?_)
    rw [tb_.1]
    have fin : ∀ e, e = (if ksg (Bc m p) (Bc m (p + 1)) = 28 ∨ ksg (Bc m p) (Bc m (p + 1)) = 29 ∨ ksg (Bc m p) (Bc m (p + 1)) = 31 then p + 2 else p + 1) → Q e (jup (jup m 6 i 0) 4 i (ksg (Bc m p) (Bc m (p + 1)))) := fun e he => hQ e _ (tkU_4 f0) (Or.inr (Or.inr (Or.inr ⟨z, fun w => by have := r1 w; omega, fun w => by have := s1 w; omega, by rw [jup_s], by rw [jup_s]; exact he⟩)))
    refine ⟨i0, i1, i0, i1, fun k => fin _ (by rw [if_pos (Or.inl k)]), fun k => ⟨i0, i1, fun k2 => fin _ (by rw [if_pos (Or.inr (Or.inl k2))]), fun k2 => ⟨i0, i1, fun k3 => fin _ (by rw [if_neg (by omega)]), fun k3 => fin _ (by rw [if_pos (by omega)])⟩⟩⟩
  · have dp : isDi (Bc m p) := Classical.byContradiction (fun w => z2 (s0 w))
    refine c_scanInt hb1 i0 i1 p0 (by rw [tb_.2.2.2]; exact p1) jup_s (by rw [tb_.1]; exact dp) (fun e m' f' k' => hQ e m' ⟨fun q a b => (f'.1 q a b).trans (f0.1 q a b), fun j hj => ⟨(f'.2 j hj).1.trans (f0.2 j hj).1, (f'.2 j hj).2.trans (f0.2 j hj).2⟩⟩ (by rw [tb_.1] at k'; exact k'))
  · have dp : isLe (Bc m p) := Classical.byContradiction (fun w => z1 (r0 w))
    refine c_scanWord hb1 (tb_.2.2.1 hw) i0 i1 p0 (by rw [tb_.2.2.2]; exact p1) jup_s (by rw [tb_.1]; exact dp) (fun e m' f' k' => hQ e m' ⟨fun q a b => (f'.1 q a b).trans (f0.1 q a b), fun j hj => ⟨(f'.2 j hj).1.trans (f0.2 j hj).1, (f'.2 j hj).2.trans (f0.2 j hj).2⟩⟩ (by rw [tb_.1] at k'; exact k'))
/-- i tokens stand behind one another up to the byte at -/
def tch (B K S V : Int → Int) : Nat → Int → Prop
  | 0, a => a = 0
  | i + 1, a => ∃ b, tch B K S V i b ∧ isRun B isBl b (S i) ∧ tkC B (S i) (K i) (V i) a
theorem tch_cg {B K S V K' S' V' : Int → Int} : ∀ {i : Nat} {a : Int}, tch B K S V i a → (∀ j : Int, 0 ≤ j → j < i → K' j = K j ∧ S' j = S j ∧ V' j = V j) → tch B K' S' V' i a := by
  intro i
  induction i with
  | zero => intro a h _; exact h
  | succ i ih =>
    rintro a ⟨b, h1, h2, h3⟩ h
    have e := h i (by omega) (by omega)
    refine ⟨b, ih h1 (fun j j0 j1 => h j j0 (by omega)), ?_, ?_⟩
    · rw [e.2.1]; exact h2
    · rw [e.1, e.2.1, e.2.2]; exact h3
/-- the class's tokens: the last is the n-th -/
def tkI (B : Int → Int) (m : jM) (n : Int) : Prop := 0 ≤ n ∧ n ≤ 400 ∧ (∃ a, tch B (m 4) (m 5) (m 6) (n + 1).toNat a) ∧ (∀ j, 0 ≤ j → j < n → m 4 j ≠ 34 ∧ m 4 j ≠ 35) ∧ (n = 400 ∨ m 4 n = 34 ∨ m 4 n = 35)
theorem c_scan {m : jM} {Q : Int → jM → Prop} (hb : bcI m) (hw : wkI m) (hQ : ∀ m' n, frx [4, 5, 6] [] m m' → tkI (Bc m) m' n → Q 0 m') : ML iX6_scan [(2, 2)] m Q := by
  have t := hb.1
  refine sX6_scan ?_
  refine lup2 (n := 401) (I := fun i m1 (a : Int) => 0 ≤ i ∧ i ≤ 401 ∧ frx [4, 5, 6] [] m m1 ∧ 0 ≤ a ∧ a ≤ m 2 1 ∧ tch (Bc m) (m1 4) (m1 5) (m1 6) i.toNat a ∧ ∀ j, 0 ≤ j → j < i → m1 4 j ≠ 34 ∧ m1 4 j ≠ 35) (G := fun i m1 a => GL iX6_scan m1 4 [(2, 2), (0, a), (0, i)] [] Q) ?_ ?_ 0 m 0 ⟨by decide, by decide, frx_rf, by decide, t.1, rfl, fun j j0 j1 => by omega⟩
  · rintro i m1 a hi ⟨i0, -, f1, a0, a1, h1, n1⟩ K
    have bk : ∀ m2, frx [4, 5, 6] [] m m2 → Bc m2 = Bc m ∧ bcI m2 ∧ wkI m2 ∧ m2 2 1 = m 2 1 := by
      intro m2 f2
      unfold Bc bcI wkI
      rw [frx_row f2 2 (by decide) (by decide), frx_row f2 3 (by decide) (by decide), frx_row f2 7 (by decide) (by decide)]
      exact ⟨rfl, hb, hw, rfl⟩
    have b1 := bk m1 f1
    refine sX6_scan_4 ⟨fun z => absurd z (by omega), fun _ => c_skipBlanks b1.2.1 a0 (by rw [b1.2.2.2]; exact a1) (fun p hp hp1 => ⟨i0, hi, ?_⟩)⟩
    rw [b1.1] at hp
    have f2 : frx [4, 5, 6] [] m (jup m1 5 i p) := frx_upA f1 (by decide)
    have b2 := bk _ f2
    have p0 : 0 ≤ p := by have := hp.1; omega
    refine c_scanToken b2.2.1 b2.2.2.1 i0 hi p0 (by rw [b2.2.2.2]; omega) (fun e m3 u3 k3 => ?_)
    rw [b2.1] at k3
    have f3 : frx [4, 5, 6] [] m m3 := by
      intro q j hq hj
      rw [u3.1 q (by rintro rfl; exact hq (by decide)) (by rintro rfl; exact hq (by decide))]
      exact f2 q j hq hj
    have bb := tkC_in hb p0 (by rw [← b1.2.2.2]; exact hp1) k3
    have s3 : m3 5 = jup m1 5 i p 5 := u3.1 5 (by decide) (by decide)
    have c3 : tch (Bc m) (m3 4) (m3 5) (m3 6) (i + 1).toNat e := by
      rw [show (i + 1).toNat = i.toNat + 1 by omega]
      refine ⟨a, tch_cg h1 (fun j j0 j1 => ?_), ?_, ?_⟩
      · have u := u3.2 j (by omega)
        refine ⟨u.1.trans (by rw [jup_ne (by decide)]), ?_, u.2.trans (by rw [jup_ne (by decide)])⟩
        rw [s3, jup_self, if_neg (by omega)]
      · rw [Int.toNat_of_nonneg i0, s3, jup_s]; exact hp
      · rw [Int.toNat_of_nonneg i0, s3, jup_s]; exact k3
    have n3 : ∀ j, 0 ≤ j → j < i → m3 4 j ≠ 34 ∧ m3 4 j ≠ 35 := fun j j0 j1 => by
      rw [(u3.2 j (by omega)).1, jup_ne (by decide)]
      exact n1 j j0 j1
    have fin : (i = 400 ∨ m3 4 i = 34 ∨ m3 4 i = 35) → Q 0 m3 := fun h => hQ m3 i f3 ⟨i0, by omega, ⟨e, c3⟩, n3, h⟩
    rw [jw_id (x := i + 1) (by omega) (by omega)]
    refine ⟨i0, hi, fun z => fin (Or.inr (Or.inl z)), fun z => ⟨i0, hi, fun z2 => ?_, fun z2 => fin (Or.inr (Or.inr (Classical.byContradiction z2)))⟩⟩
    by_cases e400 : i = 400
    · refine sX6_scan_4 ⟨fun _ => fin (Or.inl e400), fun w => absurd (by omega) w⟩
    · refine K m3 e ⟨by omega, by omega, f3, by omega, bb.2.1, c3, fun j j0 j1 => ?_⟩
      by_cases ej : j = i
      · rw [ej]; exact ⟨z, z2⟩
      · exact n3 j j0 (by omega)
  · rintro i m1 a hi ⟨i0, i1, f1, a0, a1, h1, n1⟩
    obtain rfl : i = 401 := by omega
    exact sX6_scan_4 ⟨fun _ => hQ m1 400 f1 ⟨by decide, by decide, ⟨a, h1⟩, fun j j0 j1 => n1 j j0 (by omega), Or.inl rfl⟩, fun w => absurd hi w⟩
