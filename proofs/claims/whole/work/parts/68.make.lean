/-! what the table's choice is; the list of routes; the class's make -/
def leO (a : Int × Int × Int) (p r : Int) : Prop := 0 ≤ a.1 ∧ (a.1 < p ∨ (a.1 = p ∧ a.2.1 ≤ r))
theorem pOp_le {T : Int → pT} {rest cost dr code : Int} {a : Int × Int × Int} (h : 0 ≤ (T rest).1.1) (hc : 0 ≤ cost) : leO (pOp T rest cost dr code a) ((T rest).1.1 + cost) ((T rest).1.2.1 + dr) := by
  by_cases q : 0 ≤ a.1 ∧ (a.1 < (T rest).1.1 + cost ∨ ((T rest).1.1 + cost = a.1 ∧ a.2.1 ≤ (T rest).1.2.1 + dr))
  · have e : pOp T rest cost dr code a = a := by unfold pOp; rw [if_neg (by omega), if_pos q]
    rw [e]
    exact ⟨q.1, by rcases q.2 with z | z <;> omega⟩
  · have e : pOp T rest cost dr code a = ((T rest).1.1 + cost, (T rest).1.2.1 + dr, code) := by unfold pOp; rw [if_neg (by omega), if_neg q]
    rw [e]
    exact ⟨by simp only; omega, Or.inr ⟨rfl, Int.le_refl _⟩⟩
theorem pOp_mo {T : Int → pT} {rest cost dr code p r : Int} {a : Int × Int × Int} (h : leO a p r) (hc : 0 ≤ cost) : leO (pOp T rest cost dr code a) p r := by
  unfold pOp
  split
  · exact h
  · split
    · exact h
    · rename_i q1 q2
      unfold leO at h ⊢
      simp only
      omega
theorem pOp_ch {T : Int → pT} {rest cost dr code : Int} {a : Int × Int × Int} : pOp T rest cost dr code a = a ∨ (0 ≤ (T rest).1.1 ∧ pOp T rest cost dr code a = ((T rest).1.1 + cost, (T rest).1.2.1 + dr, code) ∧ ¬ leO a ((T rest).1.1 + cost) ((T rest).1.2.1 + dr)) := by
  unfold pOp
  split
  · exact Or.inl rfl
  · split
    · exact Or.inl rfl
    · rename_i q1 q2
      refine Or.inr ⟨by omega, rfl, fun h => q2 ?_⟩
      unfold leO at h
      omega
theorem wsN_b {V : jM} (hk : vKt V) {s x : Int} {T : Int → pT} {a : Int × Int × Int} : ∀ n : Nat, n ≤ 64 → (∀ p r, leO a p r → leO (wsN V s T x a n).1 p r) ∧ (∀ y : Int, 0 ≤ y → y < n → rtK V s x y → 0 ≤ (T (x - y)).1.1 → leO (wsN V s T x a n).1 ((T (x - y)).1.1 + py V s y) ((T (x - y)).1.2.1 + 1)) ∧ ((wsN V s T x a n).1 = a ∨ ∃ y : Int, 0 ≤ y ∧ y < n ∧ rtK V s x y ∧ 0 ≤ (T (x - y)).1.1 ∧ (wsN V s T x a n).1 = ((T (x - y)).1.1 + py V s y, (T (x - y)).1.2.1 + 1, y) ∧ ¬ leO a ((T (x - y)).1.1 + py V s y) ((T (x - y)).1.2.1 + 1) ∧ ∀ z : Int, 0 ≤ z → z < y → rtK V s x z → 0 ≤ (T (x - z)).1.1 → ¬ ((T (x - z)).1.1 + py V s z = (T (x - y)).1.1 + py V s y ∧ (T (x - z)).1.2.1 + 1 = (T (x - y)).1.2.1 + 1)) := by
  intro n
  induction n with
  | zero => intro _; exact ⟨fun p r h => h, fun y y0 y1 => by omega, Or.inl rfl⟩
  | succ n ih =>
    intro hn
    obtain ⟨i1, i2, i3⟩ := ih (by omega)
    simp only [wsN]
    split
    · rename_i q
      have pb := py_in hk (x := (n : Int)) (by omega) (by omega) q.2.2
      simp only
      refine ⟨fun p r h => pOp_mo (i1 p r h) pb.1, fun y y0 y1 hr ht => ?_, ?_⟩
      · by_cases e : y = n
        · subst e; exact pOp_le ht pb.1
        · exact pOp_mo (i2 y y0 (by omega) hr ht) pb.1
      · rcases pOp_ch (T := T) (rest := x - n) (cost := py V s n) (dr := 1) (code := (n : Int)) (a := (wsN V s T x a n).1) with e | ⟨e1, e2, e3⟩
        · rw [e]
          rcases i3 with z | ⟨y, y0, y1, z⟩
          · exact Or.inl z
          · exact Or.inr ⟨y, y0, by omega, z⟩
        · refine Or.inr ⟨n, by omega, by omega, q, e1, e2, fun h => e3 (i1 _ _ h), fun z z0 z1 hr ht h => e3 ?_⟩
          have := i2 z z0 z1 hr ht
          rw [h.1, h.2] at this
          exact this
    · rename_i q
      refine ⟨i1, fun y y0 y1 hr ht => ?_, ?_⟩
      · by_cases e : y = n
        · subst e; exact absurd hr q
        · exact i2 y y0 (by omega) hr ht
      · rcases i3 with z | ⟨y, y0, y1, z⟩
        · exact Or.inl z
        · exact Or.inr ⟨y, y0, by omega, z⟩
/-- by taxi -/
def txK (V : jM) (s x : Int) : Prop := vD V 2 (V 8 (low x)) (V 6 s) ≠ -1 ∧ 0 ≤ (tA V s (x - 2 ^ (low x).toNat)).1.1 ∧ (tA V s (x - 2 ^ (low x).toNat)).1.1 + txC V s (low x) = (tA V s x).1.1 ∧ (tA V s (x - 2 ^ (low x).toNat)).1.2.1 + 0 = (tA V s x).1.2.1
/-- by a route -/
def rtB (V : jM) (s x y : Int) : Prop := rtK V s x y ∧ 0 ≤ (tA V s (x - y)).1.1 ∧ (tA V s (x - y)).1.1 + py V s y = (tA V s x).1.1 ∧ (tA V s (x - y)).1.2.1 + 1 = (tA V s x).1.2.1
theorem tA_ch {V : jM} (hf : vKf V) (hk : vKt V) {s x : Int} (x0 : 0 < x) (x1 : x < 64) (h : 0 ≤ (tA V s x).1.1) : ((tA V s x).1.2.2 = 0 ∧ txK V s x) ∨ (0 < (tA V s x).1.2.2 ∧ (tA V s x).1.2.2 ≤ x ∧ rtB V s x (tA V s x).1.2.2 ∧ ¬ txK V s x ∧ ∀ y, 0 ≤ y → y < (tA V s x).1.2.2 → ¬ rtB V s x y) := by
  have e := tA_eq (V := V) (s := s) x0 x1
  obtain ⟨b1, b2, b3⟩ := wsN_b hk (s := s) (x := x) (T := tA V s) (a := txA V s (tA V s) x) (x.toNat + 1) (by omega)
  have e' : tA V s x = wsN V s (tA V s) x (txA V s (tA V s) x) (x.toNat + 1) := e
  rw [← e'] at b1 b2 b3
  have ta : vD V 2 (V 8 (low x)) (V 6 s) ≠ -1 → 0 ≤ (tA V s (x - 2 ^ (low x).toNat)).1.1 → txA V s (tA V s) x = ((tA V s (x - 2 ^ (low x).toNat)).1.1 + txC V s (low x), (tA V s (x - 2 ^ (low x).toNat)).1.2.1 + 0, 0) := by
    intro h1 h2
    unfold txA pOp
    rw [if_neg h1, if_neg (by omega), if_neg (fun z => absurd z.1 (by decide))]
  have tn : ¬ (vD V 2 (V 8 (low x)) (V 6 s) ≠ -1 ∧ 0 ≤ (tA V s (x - 2 ^ (low x).toNat)).1.1) → txA V s (tA V s) x = (-1, 0, 0) := by
    intro h1
    unfold txA
    split
    · rfl
    · rename_i q
      unfold pOp
      rw [if_pos]
      apply Classical.byContradiction
      intro w
      exact h1 ⟨q, by omega⟩
  rcases b3 with z | ⟨y, y0, y1, r, t, z, hn, hy⟩
  · left
    by_cases q : vD V 2 (V 8 (low x)) (V 6 s) ≠ -1 ∧ 0 ≤ (tA V s (x - 2 ^ (low x).toNat)).1.1
    · rw [ta q.1 q.2] at z
      refine ⟨by rw [z], q.1, q.2, by rw [z], by rw [z]⟩
    · rw [tn q] at z
      rw [z] at h
      exact absurd h (by decide)
  · right
    have ri := rtK_in x0 x1 y0 (by omega) r
    have ec : (tA V s x).1.2.2 = y := by rw [z]
    have e1 : (tA V s x).1.1 = (tA V s (x - y)).1.1 + py V s y := by rw [z]
    have e2 : (tA V s x).1.2.1 = (tA V s (x - y)).1.2.1 + 1 := by rw [z]
    rw [ec]
    refine ⟨ri.1, by omega, ⟨r, t, e1.symm, e2.symm⟩, fun q => hn ?_, fun w w0 w1 hw => hy w w0 w1 hw.1 hw.2.1 ⟨by rw [hw.2.2.1]; exact e1, by rw [hw.2.2.2]; exact e2⟩⟩
    rw [ta q.1 q.2.1, q.2.2.1, q.2.2.2, ← e1, ← e2]
    exact ⟨h, Or.inr ⟨rfl, Int.le_refl _⟩⟩
/-- the routes and the taxis of what is left -/
noncomputable def plL (V : jM) (s : Int) : Nat → Int → List Int → Int → List Int × Int
  | 0, _, r, t => (r, t)
  | n + 1, x, r, t => if x = 0 then (r, t) else if (tA V s x).1.2.2 = 0 then plL V s n (x - 2 ^ (low x).toNat) r (jor t (jshl 1 (low x))) else plL V s n (x - (tA V s x).1.2.2) (r ++ [(tA V s x).1.2.2]) t
noncomputable def plR (V : jM) (s : Int) : List Int × Int := if (tA V s (srv V s)).1.1 < 0 then ([], 0) else plL V s 6 (srv V s) [] 0
/-- the class's plan stands -/
def cPlan (V : jM) (s p : Int) (m : jM) : Prop := cPl V s p m ∧ clT V s p 64 m ∧ (m p 4 = ((plR V s).1.length : Int) ∧ (plR V s).1.length ≤ 6 ∧ ∀ j, 0 ≤ j → j < ((plR V s).1.length : Int) → m (p + 4) j = fnL (plR V s).1 j) ∧ m p 6 = (plR V s).2
theorem c_hasPlan {V m : jM} {Q : Int → jM → Prop} {s p : Int} (hp : jPl p) (hf : vKf V) (ht : vKt V) (hr : m p 8 = srv V s) (hT : clT V s p 64 m) (hno : (tA V s (srv V s)).1.1 < 0 → Q 0 m) (hQ : 0 ≤ (tA V s (srv V s)).1.1 → Q 1 m) : ML iX3_hasPlan [(2, p)] m Q := by
  have so := srv_ok ht s
  have b := tA_bd hf ht s so.1 so.2.1
  refine sX3_hasPlan hp ?_
  rw [hr, (hT _ so.1 so.2.1 (fun i _ _ h => h)).1]
  refine ⟨so.1, so.2.1, fun z => hno ?_, fun z => hQ ?_⟩
  · apply Classical.byContradiction
    intro w
    rw [if_neg w] at z
    omega
  · apply Classical.byContradiction
    intro w
    rw [if_pos (by omega)] at z
    exact z rfl
theorem c_listRoutes {V m : jM} {Q : Int → jM → Prop} {s p : Int} (hp : jPl p) (hf : vKf V) (ht : vKt V) (hP : cPl V s p m) (hT : clT V s p 64 m) (hQ : ∀ m', (∀ q, q ≠ p → q ≠ p + 4 → m' q = m q) → (∀ i, i ≠ 4 → i ≠ 6 → m' p i = m p i) → cPlan V s p m' → Q 0 m') : ML iX3_listRoutes [(2, p)] m Q := by
  have so := srv_ok ht s
  have pr : 64 ≤ p ∧ p ≤ 92 := by unfold jPl at hp; omega
  -- what stays
  have fin : ∀ m', (∀ q, q ≠ p → q ≠ p + 4 → m' q = m q) → (∀ i, i ≠ 4 → i ≠ 6 → m' p i = m p i) → m' p 4 = ((plR V s).1.length : Int) → (plR V s).1.length ≤ 6 → (∀ j, 0 ≤ j → j < ((plR V s).1.length : Int) → m' (p + 4) j = fnL (plR V s).1 j) → m' p 6 = (plR V s).2 → Q 0 m' := by
    intro m' f1 f2 h1 h2 h3 h4
    obtain ⟨⟨a1, a2, a3, a4⟩, b, c⟩ := hP
    have r : ∀ j, j ≠ 0 → j ≠ 4 → m' (p + j) = m (p + j) := fun j h0 hj => f1 _ (by omega) (by omega)
    refine hQ m' f1 f2 ⟨⟨⟨?_, ?_, ?_, ?_⟩, ?_, ?_⟩, ?_, ⟨h1, h2, h3⟩, h4⟩
    · rw [r 5 (by decide) (by decide), r 1 (by decide) (by decide)]; exact a1
    · rw [f2 8 (by decide) (by decide)]; exact a2
    · rw [f2 9 (by decide) (by decide)]; exact a3
    · rw [f2 9 (by decide) (by decide)]; exact a4
    · unfold cLg at b ⊢; rw [r 7 (by decide) (by decide), r 8 (by decide) (by decide)]; exact b
    · rw [r 3 (by decide) (by decide), r 2 (by decide) (by decide), r 9 (by decide) (by decide)]; exact c
    · unfold clT clE at hT ⊢
      rw [r 10 (by decide) (by decide), r 11 (by decide) (by decide), r 12 (by decide) (by decide), r 13 (by decide) (by decide)]; exact hT
  generalize hm0 : jup (jup m p 4 0) p 6 0 = m0
  have f0 : ∀ q, q ≠ p → q ≠ p + 4 → m0 q = m q := fun q h1 h2 => by rw [← hm0, jup_ne h1, jup_ne h1]
  have g0 : ∀ i, i ≠ 4 → i ≠ 6 → m0 p i = m p i := fun i h1 h2 => by rw [← hm0, jup_self, if_neg h2, jup_self, if_neg h1]
  have e4 : m0 p 4 = 0 := by rw [← hm0, jup_self, if_neg (by decide), jup_s]
  have e6 : m0 p 6 = 0 := by rw [← hm0, jup_s]
  have T0 : clT V s p 64 m0 := by
    unfold clT clE at hT ⊢
    rw [f0 (p + 10) (by omega) (by omega), f0 (p + 11) (by omega) (by omega), f0 (p + 12) (by omega) (by omega), f0 (p + 13) (by omega) (by omega)]; exact hT
  refine sX3_listRoutes hp ?_
  rw [hm0]
  refine c_hasPlan hp hf ht (by rw [g0 8 (by decide) (by decide)]; exact hP.1.2.1) T0 (fun hn => ⟨fun z => absurd rfl z, fun _ => ?_⟩) (fun hy => ⟨fun _ => ?_, fun z => absurd (by decide) z⟩)
  · have e : plR V s = ([], 0) := by unfold plR; rw [if_pos hn]
    refine fin m0 f0 g0 ?_ ?_ ?_ ?_
    · rw [e, e4]; rfl
    · rw [e]; decide
    · rw [e]; intro j j0 j1; simp only [List.length_nil] at j1; omega
    · rw [e, e6]
  · have e : plR V s = plL V s 6 (srv V s) [] 0 := by unfold plR; rw [if_neg (by omega)]
    rw [g0 8 (by decide) (by decide), hP.1.2.1]
    have key : ∀ (n : Nat) (i x : Int) (r : List Int) (t : Int) (m1 : jM), i + n = 6 → 0 ≤ i → 0 ≤ x → x < 64 → sub6 x (srv V s) → 0 ≤ (tA V s x).1.1 → cnt x 6 ≤ n → (r.length : Int) ≤ i → (∀ q, q ≠ p → q ≠ p + 4 → m1 q = m q) → (∀ i, i ≠ 4 → i ≠ 6 → m1 p i = m p i) → m1 p 4 = (r.length : Int) → (∀ j, 0 ≤ j → j < (r.length : Int) → m1 (p + 4) j = fnL r j) → m1 p 6 = t → plR V s = plL V s n x r t → GL iX3_listRoutes m1 25 [(2, p), (0, x), (0, i), (9, 0)] [] Q := by
      intro n
      induction n with
      | zero =>
        intro i x r t m1 hi i0 x0 x1 xs xp xc hr f1 f2 h1 h2 h3 h4
        simp only [plL] at h4
        refine sX3_listRoutes_25 hp ⟨fun _ => fin m1 f1 f2 ?_ ?_ ?_ ?_, fun z => absurd (by omega) z⟩
        · rw [h4]; exact h1
        · rw [h4]; simp only; omega
        · rw [h4]; exact h2
        · rw [h4]; exact h3
      | succ n ih =>
        intro i x r t m1 hi i0 x0 x1 xs xp xc hr f1 f2 h1 h2 h3 h4
        simp only [plL] at h4
        refine sX3_listRoutes_25 hp ⟨fun z => absurd z (by omega), fun _ => ⟨fun z => ?_, fun z => ⟨x0, x1, ?_⟩⟩⟩
        · rw [if_pos z] at h4
          refine fin m1 f1 f2 ?_ ?_ ?_ ?_
          · rw [h4]; exact h1
          · rw [h4]; simp only; omega
          · rw [h4]; exact h2
          · rw [h4]; exact h3
        · rw [if_neg z] at h4
          have l := lw_in (show 0 < x by omega) x1
          have d := dl_in x0 x1 l.1.1 l.1.2.1 l.1.2.2
          have hE := ((hT x x0 x1 xs).2.1 xp).2
          have e12 : m1 (p + 12) x = (tA V s x).1.2.2 := by rw [f1 _ (by omega) (by omega)]; exact hE
          rw [e12]
          rcases tA_ch hf ht (show 0 < x by omega) x1 xp with ⟨c0, tk⟩ | ⟨c0, c1, rb, -⟩
          · rw [c0]
            rw [if_pos c0] at h4
            refine ⟨fun w => absurd rfl w, fun _ => ?_⟩
            rw [jw_id (x := i + 1) (by omega) (by omega), l.2.2.1, l.2.2.2, h3, show (2 : Int) ^ (low x).toNat = jshl 1 (low x) from (jshl1 _ l.1.1 (by omega)).symm]
            rw [show (2 : Int) ^ (low x).toNat = jshl 1 (low x) from (jshl1 _ l.1.1 (by omega)).symm] at h4 d
            refine ih (i + 1) _ r _ _ (by omega) (by omega) d.2.1 (by omega) ?_ ?_ (by omega) (by omega) (fun q q0 q4 => by rw [jup_ne q0]; exact f1 q q0 q4) (fun j j4 j6 => by rw [jup_self, if_neg j6]; exact f2 j j4 j6) (by rw [jup_self, if_neg (by decide)]; exact h1) (fun j j0 j1 => by rw [jup_ne (by omega)]; exact h2 j j0 j1) jup_s h4
            · have := sub6_dl x0 x1 l.1.1 l.1.2.1 l.1.2.2 xs
              rw [show (2 : Int) ^ (low x).toNat = jshl 1 (low x) from (jshl1 _ l.1.1 (by omega)).symm] at this
              exact this
            · have := tk.2.1
              rw [show (2 : Int) ^ (low x).toNat = jshl 1 (low x) from (jshl1 _ l.1.1 (by omega)).symm] at this
              exact this
          · have c64 : (tA V s x).1.2.2 < 64 := by omega
            rw [if_neg (by omega)] at h4
            have ri := rtK_in (show 0 < x by omega) x1 (by omega) c64 rb.1
            have q := sb_in x0 x1 (by omega) c64 rb.1.1
            rw [jw_id (x := i + 1) (by omega) (by omega), h1, jw_id (x := (r.length : Int) + 1) (by omega) (by omega), q.1]
            refine ⟨fun _ => ⟨by omega, by omega, ?_⟩, fun w => absurd (by omega) w⟩
            refine ih (i + 1) _ (r ++ [(tA V s x).1.2.2]) t _ (by omega) (by omega) ri.2.1 (by omega) (fun j j0 j1 hj => xs j j0 j1 (ri.2.2.2.1 j j0 j1 hj)) rb.2.1 (by omega) (by rw [List.length_append]; simp only [List.length_singleton]; omega) (fun q q0 q4 => by rw [jup_ne q0, jup_ne q4]; exact f1 q q0 q4) (fun j j4 j6 => by rw [jup_self, if_neg j4, jup_ne (by omega)]; exact f2 j j4 j6) (by rw [jup_s, List.length_append]; simp only [List.length_singleton]; omega) (fun j j0 j1 => ?_) (by rw [jup_self, if_neg (by decide), jup_ne (by omega)]; exact h3) h4
            rw [jup_ne (by omega), jup_self]
            by_cases e : j = (r.length : Int)
            · rw [if_pos e, e]
              exact (fnL_app r [] _).symm
            · rw [if_neg e, fnL_l j0 (by rw [List.length_append] at j1; simp only [List.length_singleton] at j1; omega)]
              exact h2 j j0 (by rw [List.length_append] at j1; simp only [List.length_singleton] at j1; omega)
    exact key 6 0 (srv V s) [] 0 m0 (by decide) (by decide) so.1 so.2.1 (fun i _ _ h => h) hy (cnt_nn _ 6).2 (by decide) f0 g0 e4 (fun j j0 j1 => by simp only [List.length_nil] at j1; omega) e6 e
def pZ (p : Int) (m : jM) : Prop := m (p + 10) 0 = 0 ∧ m (p + 11) 0 = 0 ∧ m (p + 12) 0 = 0 ∧ m (p + 13) 0 = 0
theorem c_make {V m : jM} {Q : Int → jM → Prop} {k s p : Int} (hp : jPl p) (hf : vKf V) (ht : vKt V) (hg : vwG V k m) (hj : jAll V m) (k0 : 0 ≤ k) (k3 : k < 3) (s0 : 0 ≤ s) (s1 : s < V 0 2) (hz : pZ p m) (hQ : ∀ m', (∀ q, (q < p ∨ p + 13 < q) → q ≠ 24 → q ≠ 25 → m' q = m q) → vwG V k m' → cPlan V s p m' → m' p 0 = m 11 5 → pZ p m' → Q 0 m') : ML iX3_make [(2, p), (2, 11), (0, s)] m Q := by
  have tk := hf.1
  have hN := ht.1
  have so := srv_ok ht s
  have pr : 64 ≤ p ∧ p ≤ 92 := by unfold jPl at hp; omega
  refine sX3_make hp ?_
  have g0 : vwG V k (jup m p 0 (m 11 5)) := vwG_lo hg k0 k3 (fun q hq => jup_ne (by omega))
  have j0 : jAll V (jup m p 0 (m 11 5)) := fun c c0 c1 => by rw [jup_ne (by omega)]; exact hj c c0 c1
  refine c_gatherRiders hp hf ht g0 j0 k0 k3 (fun m1 f1 fp1 r1 => ?_)
  have g1 : vwG V k m1 := vwG_lo g0 k0 k3 (fun q hq => f1 q (by omega))
  have j1 : jAll V m1 := fun c c0 c1 => by rw [f1 11 (by omega)]; exact j0 c c0 c1
  refine c_gatherParted hp hf ht g1 j1 k0 k3 (fun m2 f2 a2 => ?_)
  have g2 : vwG V k m2 := vwG_lo g1 k0 k3 (fun q hq => f2 q (by omega))
  refine c_measure hp ht g2 k0 k3 s0 s1 (by rw [f2 p (by omega)]; exact r1.2.1) (fun m3 f3 g3 l3 => ?_)
  have r3 : cRd V s p m3 := by
    obtain ⟨a, b, c, d⟩ := r1
    refine ⟨?_, ?_, ?_, ?_⟩
    · rw [f3 (p + 5) (by omega) (by omega) (by omega) (by omega), f2 (p + 5) (by omega), f3 (p + 1) (by omega) (by omega) (by omega) (by omega), f2 (p + 1) (by omega)]; exact a
    · rw [f3 p (by omega) (by omega) (by omega) (by omega), f2 p (by omega)]; exact b
    · rw [f3 p (by omega) (by omega) (by omega) (by omega), f2 p (by omega)]; exact c
    · rw [f3 p (by omega) (by omega) (by omega) (by omega), f2 p (by omega)]; exact d
  have a3 : cAp V s p (V 0 6) m3 := by
    unfold cAp at a2 ⊢
    rw [f3 (p + 6) (by omega) (by omega) (by omega) (by omega)]; exact a2
  have st3 : m3 p 0 = m 11 5 := by rw [f3 p (by omega) (by omega) (by omega) (by omega), f2 p (by omega), fp1 0 (by decide) (by decide), jup_s]
  have o3 : ∀ q, (q < p ∨ p + 13 < q) → q ≠ 24 → q ≠ 25 → m3 q = m q := fun q hq h24 h25 => by rw [f3 q (by omega) (by omega) h24 h25, f2 q (by omega), f1 q (by omega), jup_ne (by omega)]
  -- all sets: the routes
  refine lup (n := 64) (I := fun x m4 => 1 ≤ x ∧ x ≤ 64 ∧ (∀ q, q ≠ p + 2 → q ≠ p + 3 → q ≠ p + 9 → m4 q = m3 q) ∧ cSm V s p x m4 ∧ ∀ y, 0 < y → y < x → (m4 (p + 3) y = 0 ∨ m4 (p + 3) y = 1) ∧ (m4 (p + 3) y = 1 ↔ gd V s y) ∧ (¬ sub6 y (srv V s) → m4 (p + 2) y = 268435456)) (G := fun x m4 => GL iX3_make m4 28 [(2, p), (2, 11), (9, 0), (0, x)] [] Q) ?_ ?_ 1 m3 ⟨by decide, by decide, fun q _ _ _ => rfl, fun x x0 x1 => by omega, fun y y0 y1 => by omega⟩
  · rintro x m4 hx ⟨x1, -, f4, s4, h4⟩ K
    have e8 : m4 p 8 = srv V s := by rw [f4 p (by omega) (by omega) (by omega)]; exact r3.2.1
    refine sX3_make_28 hp ?_
    rw [e8, jw_id (x := x + 1) (by omega) (by omega)]
    refine ⟨fun z => absurd z (by omega), fun _ => ⟨by omega, hx, by omega, hx, fun z => ?_, fun z => ?_⟩⟩
    · have hn : ¬ sub6 x (srv V s) := fun w => z ((sub_iff (by omega) hx so.1 so.2.1).mpr w)
      refine K _ ⟨by omega, by omega, fun q q2 q3 q9 => by rw [jup_ne q3, jup_ne q2]; exact f4 q q2 q3 q9, fun y y0 y1 ys => ?_, fun y y0 y1 => ?_⟩
      · have e : y ≠ x := by rintro rfl; exact hn ys
        have q := s4 y y0 (by omega) ys
        rw [jup_ne (by omega), jup_self, if_neg e, jup_ne (by omega), jup_ne (by omega)]
        exact q
      · rw [jup_self, jup_ne (by omega), jup_ne (by omega), jup_self]
        by_cases e : y = x
        · rw [if_pos e, if_pos e, e]
          exact ⟨Or.inl rfl, ⟨fun w => absurd w (by decide), fun w => absurd w.1 hn⟩, fun _ => rfl⟩
        · rw [if_neg e, if_neg e]
          exact h4 y y0 (by omega)
    · have hsb : sub6 x (srv V s) := (sub_iff (by omega) hx so.1 so.2.1).mp (Classical.byContradiction z)
      generalize hm5 : jup (jup m4 (p + 2) x 268435456) (p + 3) x 0 = m5
      have f5 : ∀ q, q ≠ p + 2 → q ≠ p + 3 → m5 q = m4 q := fun q q2 q3 => by rw [← hm5, jup_ne q3, jup_ne q2]
      have m52 : ∀ y, m5 (p + 2) y = if y = x then 268435456 else m4 (p + 2) y := fun y => by rw [← hm5, jup_ne (by omega), jup_self]
      have m53 : ∀ y, m5 (p + 3) y = if y = x then 0 else m4 (p + 3) y := fun y => by rw [← hm5, jup_self, jup_ne (by omega)]
      have l5 : cLg V s p m5 := by
        unfold cLg at l3 ⊢
        rw [f5 (p + 7) (by omega) (by omega), f5 (p + 8) (by omega) (by omega), f4 (p + 7) (by omega) (by omega) (by omega), f4 (p + 8) (by omega) (by omega) (by omega)]; exact l3
      have s5 : cSm V s p x m5 := by
        intro y y0 y1 ys
        have q := s4 y y0 y1 ys
        rw [m52, if_neg (by omega), f5 (p + 9) (by omega) (by omega)]
        exact q
      refine c_findRoute hp ht l5 s5 (by rw [m52, if_pos rfl]) (by omega) hx hsb (fun m6 f6 o6 s6 => ?_)
      have r6 : ∀ q, q ≠ p + 2 → q ≠ p + 3 → q ≠ p + 9 → m6 q = m3 q := fun q q2 q3 q9 => by rw [f6 q q2 q9, f5 q q2 q3]; exact f4 q q2 q3 q9
      have g6 : vwG V k m6 := vwG_lo g3 k0 k3 (fun q hq => r6 q (by omega) (by omega) (by omega))
      have e2 : m6 11 2 = 27 + 12 * k := g6.2.1.1.1
      have rr6 : cRd V s p m6 := by
        obtain ⟨a, b, c, d⟩ := r3
        refine ⟨?_, ?_, ?_, ?_⟩
        · rw [r6 (p + 5) (by omega) (by omega) (by omega), r6 (p + 1) (by omega) (by omega) (by omega)]; exact a
        · rw [r6 p (by omega) (by omega) (by omega)]; exact b
        · rw [r6 p (by omega) (by omega) (by omega)]; exact c
        · rw [r6 p (by omega) (by omega) (by omega)]; exact d
      have a6 : cAp V s p (V 0 6) m6 := by
        unfold cAp at a3 ⊢
        rw [r6 (p + 6) (by omega) (by omega) (by omega)]; exact a3
      rw [e2]
      refine c_canBeGood hp hf ht g6.2.1.2.1 rr6 a6 (by omega) hx hsb (s6 x (by omega) (by omega) hsb).1 (fun r hr1 hr0 => ⟨by omega, hx, ?_, K _ ⟨by omega, by omega, fun q q2 q3 q9 => by rw [jup_ne q3]; exact r6 q q2 q3 q9, fun y y0 y1 ys => ?_, fun y y0 y1 => ?_⟩⟩)
      · by_cases w : gd V s x
        · exact Or.inr (hr1 w)
        · exact Or.inl (hr0 w)
      · rw [jup_ne (by omega), jup_ne (by omega)]
        exact s6 y y0 y1 ys
      · rw [jup_self, jup_ne (by omega)]
        by_cases e : y = x
        · rw [if_pos e, e]
          refine ⟨?_, ?_, fun w => absurd hsb w⟩
          · by_cases w : gd V s x
            · exact Or.inr (hr1 w)
            · exact Or.inl (hr0 w)
          · constructor
            · intro w
              apply Classical.byContradiction
              intro w2
              have := hr0 w2
              omega
            · exact hr1
        · rw [if_neg e, f6 (p + 3) (by omega) (by omega), m53, if_neg e, o6 y e, m52, if_neg e]
          exact h4 y y0 (by omega)
  · rintro x m4 hx ⟨x1, x2, f4, s4, h4⟩
    obtain rfl : x = 64 := by omega
    have P4 : cPl V s p m4 := by
      obtain ⟨a, b, c, d⟩ := r3
      refine ⟨⟨?_, ?_, ?_, ?_⟩, ?_, fun x x0 x1 => ⟨(h4 x x0 x1).1, (h4 x x0 x1).2.1, (h4 x x0 x1).2.2, fun w => s4 x x0 x1 w⟩⟩
      · rw [f4 (p + 5) (by omega) (by omega) (by omega), f4 (p + 1) (by omega) (by omega) (by omega)]; exact a
      · rw [f4 p (by omega) (by omega) (by omega)]; exact b
      · rw [f4 p (by omega) (by omega) (by omega)]; exact c
      · rw [f4 p (by omega) (by omega) (by omega)]; exact d
      · unfold cLg at l3 ⊢
        rw [f4 (p + 7) (by omega) (by omega) (by omega), f4 (p + 8) (by omega) (by omega) (by omega)]; exact l3
    have g4 : vwG V k m4 := vwG_lo g3 k0 k3 (fun q hq => f4 q (by omega) (by omega) (by omega))
    have o4 : ∀ q, (q < p ∨ p + 13 < q) → q ≠ 24 → q ≠ 25 → m4 q = m q := fun q hq h24 h25 => by rw [f4 q (by omega) (by omega) (by omega)]; exact o3 q hq h24 h25
    have z4 : pZ p m4 := by
      have r : ∀ q, (q = p + 10 ∨ q = p + 11 ∨ q = p + 12 ∨ q = p + 13) → m4 q = m q := fun q hq => by rw [f4 q (by omega) (by omega) (by omega), f3 q (by omega) (by omega) (by omega) (by omega), f2 q (by omega), f1 q (by omega), jup_ne (by omega)]
      unfold pZ at hz ⊢
      rw [r (p + 10) (by omega), r (p + 11) (by omega), r (p + 12) (by omega), r (p + 13) (by omega)]; exact hz
    have T4 : clT V s p 1 m4 := by
      intro x x0 x1 xs
      obtain rfl : x = 0 := by omega
      rw [tA_0]
      exact ⟨z4.1, fun _ => ⟨z4.2.1, z4.2.2.1⟩, z4.2.2.2⟩
    refine sX3_make_28 hp ⟨fun _ => ?_, fun z => absurd hx z⟩
    refine lup (n := 64) (I := fun x m5 => 1 ≤ x ∧ x ≤ 64 ∧ (∀ q, q ≠ p + 10 → q ≠ p + 11 → q ≠ p + 12 → q ≠ p + 13 → m5 q = m4 q) ∧ pZ p m5 ∧ cPl V s p m5 ∧ clT V s p x m5) (G := fun x m5 => GL iX3_make m5 91 [(2, p), (2, 11), (9, 0), (0, x)] [] Q) ?_ ?_ 1 m4 ⟨by decide, by decide, fun q _ _ _ _ => rfl, z4, P4, T4⟩
    · rintro x m5 hx ⟨x1, -, f5, z5, P5, T5⟩ K
      have g5 : vwG V k m5 := vwG_lo g4 k0 k3 (fun q hq => f5 q (by omega) (by omega) (by omega) (by omega))
      have e2 : m5 11 2 = 27 + 12 * k := g5.2.1.1.1
      refine sX3_make_91 hp ?_
      rw [P5.1.2.1, e2, jw_id (x := x + 1) (by omega) (by omega)]
      refine ⟨fun z => absurd z (by omega), fun _ => ⟨fun z => ?_, fun z => ?_⟩⟩
      · have hn : ¬ sub6 x (srv V s) := fun w => z ((sub_iff (by omega) hx so.1 so.2.1).mpr w)
        refine K m5 ⟨by omega, by omega, f5, z5, P5, fun y y0 y1 ys => ?_⟩
        have e : y ≠ x := by rintro rfl; exact hn ys
        exact T5 y y0 (by omega) ys
      · have hsb : sub6 x (srv V s) := (sub_iff (by omega) hx so.1 so.2.1).mp (Classical.byContradiction z)
        refine c_choose hp hf ht g5.2.1.2.1 P5 T5 (by omega) hx hsb (fun m6 f6 e6 => K m6 ⟨by omega, by omega, fun q q0 q1 q2 q3 => by rw [ent_row f6 q0 q1 q2 q3]; exact f5 q q0 q1 q2 q3, ?_, cPl_ent P5 f6, fun y y0 y1 ys => ?_⟩)
        · unfold pZ at z5 ⊢
          rw [ent_at f6 (by omega), ent_at f6 (by omega), ent_at f6 (by omega), ent_at f6 (by omega)]; exact z5
        · by_cases e : y = x
          · rw [e]; exact e6
          · exact clE_at (T5 y y0 (by omega) ys) f6 e
    · rintro x m5 hx ⟨x1, x2, f5, z5, P5, T5⟩
      obtain rfl : x = 64 := by omega
      have g5 : vwG V k m5 := vwG_lo g4 k0 k3 (fun q hq => f5 q (by omega) (by omega) (by omega) (by omega))
      refine sX3_make_91 hp ⟨fun _ => c_listRoutes hp hf ht P5 T5 (fun m6 f6 fp6 c6 => hQ m6 (fun q hq h24 h25 => ?_) (vwG_lo g5 k0 k3 (fun q hq => f6 q (by omega) (by omega))) c6 ?_ ?_), fun z => absurd hx z⟩
      · rw [f6 q (by omega) (by omega), f5 q (by omega) (by omega) (by omega) (by omega)]; exact o4 q hq h24 h25
      · rw [fp6 0 (by decide) (by decide), f5 p (by omega) (by omega) (by omega) (by omega), f4 p (by omega) (by omega) (by omega)]; exact st3
      · unfold pZ at z5 ⊢
        rw [f6 (p + 10) (by omega) (by omega), f6 (p + 11) (by omega) (by omega), f6 (p + 12) (by omega) (by omega), f6 (p + 13) (by omega) (by omega)]; exact z5
