/-! a view: what the text k tells on a day as known by n -/
def cut (n : Int) (f : Int → Int) : Int → Int := fun i => if 0 ≤ i ∧ i < n then f i else 0
theorem cut_in {n i : Int} {f : Int → Int} (h0 : 0 ≤ i) (h1 : i < n) : cut n f i = f i := by simp [cut, h0, h1]
theorem cut_cg {n n' : Int} {f g : Int → Int} (hn : n = n') (h : ∀ i, 0 ≤ i → i < n → f i = g i) : cut n f = cut n' g := by
  subst hn
  funext i
  unfold cut
  by_cases e : 0 ≤ i ∧ i < n
  · rw [if_pos e, if_pos e, h i e.1 e.2]
  · rw [if_neg e, if_neg e]
/-- how many children are known by n -/
def kn (d : jM) (n : Int) : Int := sumN (fun c => if d 179 c < n then 1 else 0) (d 139 50).toNat
def vw (d : jM) (k day n : Int) : jM := fun p =>
  if p = 0 then (fun i => if i = 0 then d 147 k else if i = 1 then d 148 k else if i = 2 then d 154 k else if i = 3 then d 157 k else if i = 4 then d 159 k else if i = 5 then day else if i = 6 then n else if i = 7 then kn d n else 0)
  else if p = 1 then cut 24 (fun i => d 149 (24 * k + i))
  else if p = 2 then cut 24 (fun i => d 150 (24 * k + i))
  else if p = 3 then cut 24 (fun i => d 151 (24 * k + i))
  else if p = 4 then cut 24 (fun i => d 152 (24 * k + i))
  else if p = 5 then cut 24 (fun i => d 153 (24 * k + i))
  else if p = 6 then cut 3 (fun i => d 155 (3 * k + i))
  else if p = 7 then cut 3 (fun i => d 156 (3 * k + i))
  else if p = 8 then cut 6 (fun i => d 158 (6 * k + i))
  else if p = 9 then cut 7 (fun i => d 146 (7 * k + i))
  else if p = 10 then cut n (d 174)
  else if p = 11 then cut n (d 175)
  else if p = 12 then cut n (d 176)
  else if p = 13 then cut n (d 177)
  else if p = 14 then cut n (d 178)
  else if p = 15 then cut (kn d n) (d 179)
  else if p = 20 then cut 8 (fun i => d 160 (8 * k + i) - 200 * k)
  else if p = 21 then cut 8 (fun i => d 161 (8 * k + i) - 200 * k)
  else if p = 22 then cut 500 (fun i => d 163 (500 * k + i))
  else if p = 23 then cut 500 (fun i => d 164 (500 * k + i))
  else if p = 24 then cut 200 (fun i => d 166 (200 * k + i))
  else if p = 25 then cut 200 (fun i => d 167 (200 * k + i))
  else if p = 26 then cut 200 (fun i => d 168 (200 * k + i) - 500 * k)
  else if p = 27 then cut 200 (fun i => d 169 (200 * k + i) - 500 * k)
  else if p = 28 then cut 200 (fun i => d 170 (200 * k + i) - 500 * k)
  else if p = 29 then cut 200 (fun i => d 171 (200 * k + i))
  else fun _ => 0
/-- a fact is known: it is live -/
abbrev vLv (V : jM) (i : Int) : Prop := fcLive (V 10) (V 11) i (V 0 6)
/-- the facts of a view as they must be -/
def vKf (V : jM) : Prop := (0 ≤ V 0 5 ∧ V 0 5 < 365 ∧ 0 ≤ V 0 6 ∧ V 0 6 ≤ 100 ∧ 0 ≤ V 0 7 ∧ V 0 7 ≤ 20) ∧ (∀ i, 0 ≤ i → i < V 0 6 → fcVal 20 (V 15) i (V 10 i) (V 11 i) (V 12 i) (V 13 i) (V 14 i) ∧ (V 10 i = 4 → V 11 i < V 0 7 ∧ V 12 i < V 0 7)) ∧ ∀ c, 0 ≤ c → c < V 0 7 → 0 ≤ V 15 c ∧ V 15 c < V 0 6 ∧ V 10 (V 15 c) = 0
/-- the reference's facts hold the view -/
def vRf (V m : jM) : Prop := (V 0 6 ≤ m 139 44 ∧ m 139 44 ≤ 100 ∧ V 0 7 ≤ m 139 50 ∧ m 139 50 ≤ 20) ∧ (∀ i, 0 ≤ i → i < V 0 6 → m 174 i = V 10 i ∧ m 175 i = V 11 i ∧ m 176 i = V 12 i ∧ m 177 i = V 13 i ∧ m 178 i = V 14 i) ∧ (∀ c, 0 ≤ c → c < V 0 7 → m 179 c = V 15 c) ∧ ∀ c, V 0 7 ≤ c → c < m 139 50 → V 0 6 ≤ m 179 c
/-- the class's facts hold the view -/
def vCf (V m : jM) : Prop := (V 0 6 ≤ m 13 0 ∧ m 13 0 ≤ 100 ∧ V 0 7 ≤ m 13 1 ∧ m 13 1 ≤ 20) ∧ (∀ i, 0 ≤ i → i < V 0 6 → m 19 i = V 10 i ∧ m 14 i = V 11 i ∧ m 15 i = V 12 i ∧ m 16 i = V 13 i ∧ m 17 i = V 14 i ∧ (V 0 6 ≤ m 20 i ↔ vLv V i)) ∧ ∀ c, 0 ≤ c → c < V 0 7 → m 18 c = V 15 c
theorem kn_nn (d : jM) (n : Int) (h : 0 ≤ d 139 50) : 0 ≤ kn d n ∧ kn d n ≤ d 139 50 := by
  have h1 := sumN_ge (f := fun c => if d 179 c < n then 1 else 0) (L := 0) (d 139 50).toNat (fun i _ _ => by split <;> omega)
  have h2 := sumN_le (f := fun c => if d 179 c < n then 1 else 0) (L := 1) (d 139 50).toNat (fun i _ _ => by split <;> omega)
  unfold kn
  omega
theorem kn_iff {d : jM} (h : fcK d) {n c : Int} (c0 : 0 ≤ c) (c1 : c < d 139 50) : d 179 c < n ↔ c < kn d n := by
  have inc := h.2.2.2
  have n0 := h.1.2.2.1
  have key : ∀ N : Nat, (N : Int) ≤ d 139 50 → ∀ c : Int, 0 ≤ c → c < N → (d 179 c < n ↔ c < sumN (fun c => if d 179 c < n then 1 else 0) N) := by
    intro N
    induction N with
    | zero => intro _ c c0 c1; omega
    | succ N ih =>
      intro hN c c0 c1
      have ih := ih (by omega)
      have hb := sumN_le (f := fun c => if d 179 c < n then 1 else 0) (L := 1) N (fun i _ _ => by split <;> omega)
      have hb0 := sumN_ge (f := fun c => if d 179 c < n then 1 else 0) (L := 0) N (fun i _ _ => by split <;> omega)
      simp only [sumN]
      by_cases hl : d 179 (N : Int) < n
      · rw [if_pos hl]
        have full : sumN (fun c => if d 179 c < n then 1 else 0) N = N := by
          by_cases hz : N = 0
          · subst hz; rfl
          · have := (ih ((N - 1 : Nat) : Int) (by omega) (by omega)).mp (by have := inc ((N - 1 : Nat) : Int) N (by omega) (by omega) (by omega); omega)
            omega
        rw [full]
        constructor
        · intro _; omega
        · intro _
          by_cases e : c = N
          · rw [e]; exact hl
          · have := inc c N c0 (by omega) (by omega); omega
      · rw [if_neg hl, Int.add_zero]
        by_cases e : c = N
        · rw [e]
          constructor
          · intro q; exact absurd q hl
          · intro q; omega
        · exact ih c c0 (by omega)
  have := key (d 139 50).toNat (by omega) c c0 (by omega)
  exact this
/-- the view of what is told -/
theorem vw_f {m : jM} (h : fcInv m) {k day n : Int} (d0 : 0 ≤ day) (d1 : day < 365) (n0 : 0 ≤ n) (n1 : n ≤ m 139 44) : vKf (vw m k day n) ∧ vRf (vw m k day n) m ∧ vCf (vw m k day n) m := by
  obtain ⟨⟨⟨t0, t1, N0, N1⟩, hV, hF, hI⟩, q0, q1, q2, q3, q4, q5⟩ := id h
  have hkn := kn_nn m n N0
  have e6 : vw m k day n 0 6 = n := rfl
  have e7 : vw m k day n 0 7 = kn m n := rfl
  have e5 : vw m k day n 0 5 = day := rfl
  have e10 : ∀ i, 0 ≤ i → i < n → vw m k day n 10 i = m 174 i := fun i h0 h1 => cut_in h0 h1
  have e11 : ∀ i, 0 ≤ i → i < n → vw m k day n 11 i = m 175 i := fun i h0 h1 => cut_in h0 h1
  have e12 : ∀ i, 0 ≤ i → i < n → vw m k day n 12 i = m 176 i := fun i h0 h1 => cut_in h0 h1
  have e13 : ∀ i, 0 ≤ i → i < n → vw m k day n 13 i = m 177 i := fun i h0 h1 => cut_in h0 h1
  have e14 : ∀ i, 0 ≤ i → i < n → vw m k day n 14 i = m 178 i := fun i h0 h1 => cut_in h0 h1
  have e15 : ∀ c, 0 ≤ c → c < kn m n → vw m k day n 15 c = m 179 c := fun i h0 h1 => cut_in h0 h1
  have hlt : ∀ c, 0 ≤ c → c < kn m n → m 179 c < n := fun c c0 c1 => (kn_iff h.1 c0 (by omega)).mpr c1
  refine ⟨⟨by rw [e5, e6, e7]; omega, fun i i0 i1 => ?_, fun c c0 c1 => ?_⟩, ⟨by rw [e6, e7]; omega, fun i i0 i1 => ?_, fun c c0 c1 => ?_, fun c c0 c1 => ?_⟩, by rw [e6, e7]; omega, fun i i0 i1 => ?_, fun c c0 c1 => ?_⟩
  · rw [e6] at i1
    rw [e10 i i0 i1, e11 i i0 i1, e12 i i0 i1, e13 i i0 i1, e14 i i0 i1, e7]
    have hv := hV i i0 (by omega)
    unfold fcVal at hv ⊢
    rcases hv with z | z | z | z | z | z
    · exact ⟨Or.inl z, by omega⟩
    · exact ⟨Or.inr (Or.inl (by omega)), by omega⟩
    · exact ⟨Or.inr (Or.inr (Or.inl z)), by omega⟩
    · have ka := (kn_iff h.1 (n := n) z.2.1 (by omega)).mp (by omega)
      have kb := (kn_iff h.1 (n := n) z.2.2.2.1 (by omega)).mp (by omega)
      refine ⟨Or.inr (Or.inr (Or.inr (Or.inl ?_))), fun _ => ⟨ka, kb⟩⟩
      rw [e15 _ z.2.1 ka, e15 _ z.2.2.2.1 kb]
      omega
    · exact ⟨Or.inr (Or.inr (Or.inr (Or.inr (Or.inl (by omega))))), by omega⟩
    · exact ⟨Or.inr (Or.inr (Or.inr (Or.inr (Or.inr z)))), by omega⟩
  · rw [e7] at c1
    have := hF c c0 (by omega)
    have := hlt c c0 c1
    rw [e15 c c0 c1, e6, e10 _ (by omega) this]
    omega
  · rw [e6] at i1
    rw [e10 i i0 i1, e11 i i0 i1, e12 i i0 i1, e13 i i0 i1, e14 i i0 i1]
    exact ⟨rfl, rfl, rfl, rfl, rfl⟩
  · rw [e7] at c1
    rw [e15 c c0 c1]
  · rw [e7] at c0
    rw [e6]
    apply Classical.byContradiction
    intro z
    have := (kn_iff h.1 (n := n) (by omega) c1).mp (by omega)
    omega
  · rw [e6] at i1
    have q := q2 i i0 (by omega)
    rw [e10 i i0 i1, e11 i i0 i1, e12 i i0 i1, e13 i i0 i1, e14 i i0 i1, e6]
    refine ⟨q.1, q.2.1, q.2.2.1, q.2.2.2.1, q.2.2.2.2, ?_⟩
    rw [q3 i n i0 (by omega) n1]
    unfold vLv fcLive
    rw [e6]
    constructor
    · intro g j j0 j1
      rw [e10 j (by omega) j1, e11 j (by omega) j1]
      exact g j j0 j1
    · intro g j j0 j1
      have := g j j0 j1
      rw [e10 j (by omega) j1, e11 j (by omega) j1] at this
      exact this
  · rw [e7] at c1
    rw [e15 c c0 c1]
    exact q4 c c0 (by omega)
theorem c_isKnownF {V m : jM} {Q : Int → jM → Prop} {i kd : Int} (hc : vCf V m) (i0 : 0 ≤ i) (i1 : i < V 0 6) (hQ : ∀ r, (V 10 i = kd ∧ vLv V i → r = 1) → (¬ (V 10 i = kd ∧ vLv V i) → r = 0) → Q r m) : ML iX1_isKnown [(2, 13), (0, i), (0, kd), (0, V 0 6)] m Q := by
  have q := hc.2.1 i i0 i1
  have t := hc.1
  refine sX1_isKnown ?_
  rw [q.1]
  refine ⟨i0, by omega, fun c => hQ 0 (fun z => absurd z.1 c) (fun _ => rfl), fun c => ⟨fun c2 => absurd c2 (by omega), fun _ => ⟨i0, by omega, fun c3 => hQ 0 (fun z => ?_) (fun _ => rfl), fun c3 => hQ 1 (fun _ => rfl) (fun z => absurd ⟨Classical.byContradiction c, q.2.2.2.2.2.mp (by omega)⟩ z)⟩⟩⟩
  have := q.2.2.2.2.2.mpr z.2
  omega
theorem c_isLive {V m : jM} {Q : Int → jM → Prop} {i : Int} (hk : vKf V) (hr : vRf V m) (i0 : 0 ≤ i) (i1 : i < V 0 6) (hQ : ∀ r, (vLv V i → r = 1) → (¬ vLv V i → r = 0) → Q r m) : ML iX11_isLive [(2, 139), (0, i), (0, V 0 6)] m Q := by
  have t := hr.1
  have tk := hk.1
  refine sX11_isLive ?_
  rw [jw_id (by omega) (by omega)]
  refine lup (n := V 0 6) (I := fun j (m' : jM) => i < j ∧ j ≤ V 0 6 ∧ m' = m ∧ ∀ x, i < x → x < j → ¬ (V 10 x = 6 ∧ V 11 x = i)) (G := fun j m' => GL iX11_isLive m' 4 [(2, 139), (0, i), (0, V 0 6), (0, j)] [] Q) ?_ ?_ (i + 1) m ⟨by omega, by omega, rfl, fun x x0 x1 => by omega⟩
  · rintro j m' hj ⟨j0, j1, rfl, hx⟩ K
    have q := hr.2.1 j (by omega) hj
    refine sX11_isLive_4 ?_
    rw [q.1, q.2.1, jw_id (x := j + 1) (by omega) (by omega)]
    have nx : ¬ (V 10 j = 6 ∧ V 11 j = i) → ∀ x, i < x → x < j + 1 → ¬ (V 10 x = 6 ∧ V 11 x = i) := fun hn x x0 x1 => by
      by_cases e : x = j
      · rw [e]; exact hn
      · exact hx x x0 (by omega)
    refine ⟨fun c => absurd c (by omega), fun _ => ⟨by omega, by omega, fun c => K _ ⟨by omega, by omega, rfl, nx (fun z => c z.1)⟩, fun c => ⟨by omega, by omega, fun c2 => K _ ⟨by omega, by omega, rfl, nx (fun z => c2 z.2)⟩, fun c2 => hQ 0 (fun z => ?_) (fun _ => rfl)⟩⟩⟩
    exact absurd ⟨Classical.byContradiction c, Classical.byContradiction c2⟩ (z j j0 hj)
  · rintro j m' hj ⟨j0, j1, rfl, hx⟩
    obtain rfl : j = V 0 6 := by omega
    exact sX11_isLive_4 ⟨fun _ => hQ 1 (fun _ => rfl) (fun z => absurd hx z), fun c => absurd (Int.le_refl _) c⟩
/-- the latest move of a kind among the first j facts -/
noncomputable def hmL (V : jM) (kd c : Int) : Nat → Int
  | 0 => -1
  | j + 1 => @ite _ (V 10 j = kd ∧ V 11 j = c ∧ V 13 j ≤ V 0 5 ∧ vLv V j ∧ (hmL V kd c j = -1 ∨ V 13 (hmL V kd c j) ≤ V 13 j)) (Classical.propDecidable _) (j : Int) (hmL V kd c j)
noncomputable def hmK (V : jM) (kd c : Int) : Int := hmL V kd c (V 0 6).toNat
/-- home of a child -/
noncomputable def vHome (V : jM) (c : Int) : Int := if jrem (jdiv (V 0 5) 7) 2 = 1 ∧ hmK V 2 c ≠ -1 then V 12 (hmK V 2 c) else if hmK V 1 c ≠ -1 then V 12 (hmK V 1 c) else V 11 (V 15 c)
theorem hmL_in (V : jM) (kd c : Int) : ∀ j : Nat, hmL V kd c j = -1 ∨ (0 ≤ hmL V kd c j ∧ hmL V kd c j < j ∧ V 10 (hmL V kd c j) = kd) := by
  intro j
  induction j with
  | zero => exact Or.inl rfl
  | succ j ih =>
    simp only [hmL]
    split
    · rename_i q
      exact Or.inr ⟨by omega, by omega, q.1⟩
    · rcases ih with q | q
      · exact Or.inl q
      · exact Or.inr ⟨q.1, by omega, q.2.2⟩
theorem hmK_in {V : jM} (hk : vKf V) (kd c : Int) : hmK V kd c = -1 ∨ (0 ≤ hmK V kd c ∧ hmK V kd c < V 0 6 ∧ V 10 (hmK V kd c) = kd) := by
  have h := hmL_in V kd c (V 0 6).toNat
  have := hk.1
  unfold hmK
  omega
theorem vHome_in {V : jM} (hk : vKf V) {c : Int} (c0 : 0 ≤ c) (c1 : c < V 0 7) : 0 ≤ vHome V c ∧ vHome V c < 12 := by
  unfold vHome
  have f := hk.2.2 c c0 c1
  have g : ∀ kd, (kd = 1 ∨ kd = 2) → hmK V kd c ≠ -1 → 0 ≤ V 12 (hmK V kd c) ∧ V 12 (hmK V kd c) < 12 := by
    intro kd hkd hne
    have h := (hmK_in hk kd c).resolve_left hne
    have q := (hk.2.1 _ h.1 h.2.1).1
    unfold fcVal at q
    omega
  split
  · rename_i z
    exact g 2 (Or.inr rfl) z.2
  · split
    · rename_i z
      exact g 1 (Or.inl rfl) z
    · have q := (hk.2.1 _ f.1 f.2.1).1
      unfold fcVal at q
      omega
theorem c_latestMove {V m : jM} {Q : Int → jM → Prop} {kd c : Int} (hk : vKf V) (hc : vCf V m) (hQ : Q (hmK V kd c) m) : ML iX1_latestMove [(2, 13), (0, kd), (0, c), (0, V 0 5), (0, V 0 6)] m Q := by
  have t := hc.1
  have tk := hk.1
  refine sX1_latestMove ?_
  refine lup2 (n := V 0 6) (I := fun j (m' : jM) l => 0 ≤ j ∧ j ≤ V 0 6 ∧ m' = m ∧ l = hmL V kd c j.toNat) (G := fun j m' l => GL iX1_latestMove m' 6 [(2, 13), (0, kd), (0, c), (0, V 0 5), (0, V 0 6), (0, l), (0, j)] [] Q) ?_ ?_ 0 m (-1) ⟨by decide, by omega, rfl, rfl⟩
  · rintro j m' l hj ⟨j0, j1, rfl, rfl⟩ K
    have q := hc.2.1 j j0 hj
    have hin := hmL_in V kd c j.toNat
    have nx : hmL V kd c (j + 1).toNat = @ite _ (V 10 j = kd ∧ V 11 j = c ∧ V 13 j ≤ V 0 5 ∧ vLv V j ∧ (hmL V kd c j.toNat = -1 ∨ V 13 (hmL V kd c j.toNat) ≤ V 13 j)) (Classical.propDecidable _) j (hmL V kd c j.toNat) := by
      rw [show (j + 1).toNat = j.toNat + 1 by omega]
      simp only [hmL]
      rw [Int.toNat_of_nonneg j0]
    refine sX1_latestMove_6 ⟨fun c => absurd c (by omega), fun _ => c_isKnownF hc j0 hj (fun r h1 h0 => ?_)⟩
    rw [jw_id (x := j + 1) (by omega) (by omega), q.2.1, q.2.2.2.1]
    have no : ¬ (V 10 j = kd ∧ V 11 j = c ∧ V 13 j ≤ V 0 5 ∧ vLv V j ∧ (hmL V kd c j.toNat = -1 ∨ V 13 (hmL V kd c j.toNat) ≤ V 13 j)) → hmL V kd c j.toNat = hmL V kd c (j + 1).toNat := fun z => by rw [nx, if_neg z]
    have yes : (V 10 j = kd ∧ V 11 j = c ∧ V 13 j ≤ V 0 5 ∧ vLv V j ∧ (hmL V kd c j.toNat = -1 ∨ V 13 (hmL V kd c j.toNat) ≤ V 13 j)) → j = hmL V kd c (j + 1).toNat := fun z => by rw [nx, if_pos z]
    refine ⟨fun c1 => K _ _ ⟨by omega, by omega, rfl, no (fun z => ?_)⟩, fun c1 => ⟨j0, by omega, fun c2 => K _ _ ⟨by omega, by omega, rfl, no (fun z => c2 z.2.1)⟩, fun c2 => ⟨j0, by omega, fun c3 => K _ _ ⟨by omega, by omega, rfl, no (fun z => by omega)⟩, fun c3 => ?_⟩⟩⟩
    · have := h1 ⟨z.1, z.2.2.2.1⟩
      omega
    · have hM : V 10 j = kd ∧ vLv V j := Classical.byContradiction (fun z => c1 (h0 z))
      refine ⟨fun c4 => K _ _ ⟨by omega, by omega, rfl, yes ⟨hM.1, by omega, by omega, hM.2, Or.inl c4⟩⟩, fun c4 => ?_⟩
      have hl := hin.resolve_left c4
      rw [(hc.2.1 _ hl.1 (by omega)).2.2.2.1]
      exact ⟨j0, by omega, hl.1, by omega, fun c5 => K _ _ ⟨by omega, by omega, rfl, no (fun z => by omega)⟩, fun c5 => K _ _ ⟨by omega, by omega, rfl, yes ⟨hM.1, by omega, by omega, hM.2, Or.inr (by omega)⟩⟩⟩
  · rintro j m' l hj ⟨j0, j1, rfl, rfl⟩
    obtain rfl : j = V 0 6 := by omega
    exact sX1_latestMove_6 ⟨fun _ => hQ, fun c => absurd (Int.le_refl _) c⟩
theorem c_lastHome {V m : jM} {Q : Int → jM → Prop} {kd c : Int} (hk : vKf V) (hr : vRf V m) (hQ : Q (hmK V kd c) m) : ML iX11_lastHome [(2, 139), (0, c), (0, V 0 5), (0, V 0 6), (0, kd)] m Q := by
  have t := hr.1
  have tk := hk.1
  refine sX11_lastHome ?_
  refine lup2 (n := V 0 6) (I := fun j (m' : jM) l => 0 ≤ j ∧ j ≤ V 0 6 ∧ m' = m ∧ l = hmL V kd c j.toNat) (G := fun j m' l => GL iX11_lastHome m' 6 [(2, 139), (0, c), (0, V 0 5), (0, V 0 6), (0, kd), (0, l), (0, j)] [] Q) ?_ ?_ 0 m (-1) ⟨by decide, by omega, rfl, rfl⟩
  · rintro j m' l hj ⟨j0, j1, rfl, rfl⟩ K
    have q := hr.2.1 j j0 hj
    have hin := hmL_in V kd c j.toNat
    have nx : hmL V kd c (j + 1).toNat = @ite _ (V 10 j = kd ∧ V 11 j = c ∧ V 13 j ≤ V 0 5 ∧ vLv V j ∧ (hmL V kd c j.toNat = -1 ∨ V 13 (hmL V kd c j.toNat) ≤ V 13 j)) (Classical.propDecidable _) j (hmL V kd c j.toNat) := by
      rw [show (j + 1).toNat = j.toNat + 1 by omega]
      simp only [hmL]
      rw [Int.toNat_of_nonneg j0]
    have no : ¬ (V 10 j = kd ∧ V 11 j = c ∧ V 13 j ≤ V 0 5 ∧ vLv V j ∧ (hmL V kd c j.toNat = -1 ∨ V 13 (hmL V kd c j.toNat) ≤ V 13 j)) → hmL V kd c j.toNat = hmL V kd c (j + 1).toNat := fun z => by rw [nx, if_neg z]
    have yes : (V 10 j = kd ∧ V 11 j = c ∧ V 13 j ≤ V 0 5 ∧ vLv V j ∧ (hmL V kd c j.toNat = -1 ∨ V 13 (hmL V kd c j.toNat) ≤ V 13 j)) → j = hmL V kd c (j + 1).toNat := fun z => by rw [nx, if_pos z]
    refine sX11_lastHome_6 ?_
    rw [jw_id (x := j + 1) (by omega) (by omega), q.1, q.2.1, q.2.2.2.1]
    refine ⟨fun c => absurd c (by omega), fun _ => ⟨j0, by omega, fun c1 => K _ _ ⟨by omega, by omega, rfl, no (fun z => c1 z.1)⟩, fun c1 => ⟨j0, by omega, fun c2 => K _ _ ⟨by omega, by omega, rfl, no (fun z => c2 z.2.1)⟩, fun c2 => ⟨j0, by omega, fun c3 => K _ _ ⟨by omega, by omega, rfl, no (fun z => by omega)⟩, fun c3 => c_isLive hk hr j0 hj (fun r h1 h0 => ⟨fun c5 => ?_, fun c5 => K _ _ ⟨by omega, by omega, rfl, no (fun z => ?_)⟩⟩)⟩⟩⟩⟩
    · have hv : vLv V j := Classical.byContradiction (fun z => c5 (h0 z))
      refine ⟨fun c4 => K _ _ ⟨by omega, by omega, rfl, yes ⟨by omega, by omega, by omega, hv, Or.inl (by omega)⟩⟩, fun c4 => ?_⟩
      have hl := hin.resolve_left (by omega)
      rw [q.2.2.2.1, (hr.2.1 _ hl.1 (by omega)).2.2.2.1]
      exact ⟨j0, by omega, hl.1, by omega, fun c5 => K _ _ ⟨by omega, by omega, rfl, no (fun z => by omega)⟩, fun c5 => K _ _ ⟨by omega, by omega, rfl, yes ⟨by omega, by omega, by omega, hv, Or.inr (by omega)⟩⟩⟩
    · have := h1 z.2.2.2.1
      omega
  · rintro j m' l hj ⟨j0, j1, rfl, rfl⟩
    obtain rfl : j = V 0 6 := by omega
    exact sX11_lastHome_6 ⟨fun _ => hQ, fun c => absurd (Int.le_refl _) c⟩
theorem c_homeC {V m : jM} {Q : Int → jM → Prop} {c : Int} (hk : vKf V) (hc : vCf V m) (c0 : 0 ≤ c) (c1 : c < V 0 7) (hQ : Q (vHome V c) m) : ML iX1_homeOf [(2, 13), (0, c), (0, V 0 5), (0, V 0 6)] m Q := by
  have tk := hk.1
  have f := hk.2.2 c c0 c1
  have t := hc.1
  have ec := hc.2.2 c c0 c1
  have ef := hc.2.1 _ f.1 f.2.1
  have h1 := hmK_in hk 1 c
  have h2 := hmK_in hk 2 c
  have tail : ∀ s0, (s0 = if jrem (jdiv (V 0 5) 7) 2 = 1 then hmK V 2 c else -1) → GL iX1_homeOf m 22 [(2, 13), (0, c), (0, V 0 5), (0, V 0 6), (9, 0)] [(0, s0)] Q := by
    intro s0 hs0
    refine sX1_homeOf_22 ⟨fun n1 => ⟨fun n2 => ?_, fun n2 => absurd n1 n2⟩, fun n1 => c_latestMove hk hc ⟨fun n2 => ?_, fun n2 => ?_⟩⟩
    · by_cases e : jrem (jdiv (V 0 5) 7) 2 = 1
      · rw [if_pos e] at hs0
        have hl := h2.resolve_left (by omega)
        unfold vHome at hQ
        rw [if_pos ⟨e, by omega⟩] at hQ
        rw [hs0, (hc.2.1 _ hl.1 hl.2.1).2.2.1]
        exact ⟨hl.1, by omega, hQ⟩
      · rw [if_neg e] at hs0
        exact absurd hs0 n1
    · have hl := h1.resolve_left n2
      have hn : ¬ (jrem (jdiv (V 0 5) 7) 2 = 1 ∧ hmK V 2 c ≠ -1) := by
        rintro ⟨z1, z2⟩
        rw [if_pos z1] at hs0
        omega
      unfold vHome at hQ
      rw [if_neg hn, if_pos n2] at hQ
      rw [(hc.2.1 _ hl.1 hl.2.1).2.2.1]
      exact ⟨hl.1, by omega, hQ⟩
    · have hn : ¬ (jrem (jdiv (V 0 5) 7) 2 = 1 ∧ hmK V 2 c ≠ -1) := by
        rintro ⟨z1, z2⟩
        rw [if_pos z1] at hs0
        omega
      unfold vHome at hQ
      rw [if_neg hn, if_neg n2] at hQ
      rw [ec, ef.2.1]
      exact ⟨c0, by omega, f.1, by omega, hQ⟩
  exact sX1_homeOf ⟨fun n => tail _ (by rw [if_neg n]), fun n => c_latestMove hk hc (tail _ (by rw [if_pos (Classical.byContradiction n)]))⟩
theorem c_homeR {V m : jM} {Q : Int → jM → Prop} {c : Int} (hk : vKf V) (hr : vRf V m) (c0 : 0 ≤ c) (c1 : c < V 0 7) (hQ : Q (vHome V c) m) : ML iX11_homeOf [(2, 139), (0, c), (0, V 0 5), (0, V 0 6)] m Q := by
  have tk := hk.1
  have f := hk.2.2 c c0 c1
  have t := hr.1
  have ec := hr.2.2.1 c c0 c1
  have ef := hr.2.1 _ f.1 f.2.1
  have h1 := hmK_in hk 1 c
  have h2 := hmK_in hk 2 c
  have one : ¬ (jrem (jdiv (V 0 5) 7) 2 = 1 ∧ hmK V 2 c ≠ -1) → (hmK V 1 c < 0 → 0 ≤ c ∧ c < 20 ∧ 0 ≤ m 179 c ∧ m 179 c < 100 ∧ Q (m 175 (m 179 c)) m) ∧ (¬ (hmK V 1 c < 0) → 0 ≤ hmK V 1 c ∧ hmK V 1 c < 100 ∧ Q (m 176 (hmK V 1 c)) m) := by
    intro hn
    unfold vHome at hQ
    rw [if_neg hn] at hQ
    refine ⟨fun n2 => ?_, fun n2 => ?_⟩
    · rw [if_neg (by omega)] at hQ
      rw [ec, ef.2.1]
      exact ⟨c0, by omega, f.1, by omega, hQ⟩
    · have hl := h1.resolve_left (by omega)
      rw [if_pos (by omega)] at hQ
      rw [(hr.2.1 _ hl.1 hl.2.1).2.2.1]
      exact ⟨hl.1, by omega, hQ⟩
  refine sX11_homeOf ⟨fun n => c_lastHome hk hr (one (fun z => n z.1)), fun n => c_lastHome hk hr ⟨fun n2 => c_lastHome hk hr (one (fun z => by omega)), fun n2 => ?_⟩⟩
  have hl := h2.resolve_left (by omega)
  unfold vHome at hQ
  rw [if_pos ⟨Classical.byContradiction n, by omega⟩] at hQ
  rw [(hr.2.1 _ hl.1 hl.2.1).2.2.1]
  exact ⟨hl.1, by omega, hQ⟩
theorem c_childrenKnown {m : jM} {Q : Int → jM → Prop} {n : Int} (h : fcInv m) (hQ : Q (kn m n) m) : ML iX1_childrenKnown [(2, 13), (0, n)] m Q := by
  have t := h.1.1
  have e1 : m 13 1 = m 139 50 := h.2.2.1
  have hkn := kn_nn m n t.2.2.1
  refine sX1_childrenKnown ?_
  refine lup (n := kn m n) (I := fun c (m' : jM) => 0 ≤ c ∧ c ≤ kn m n ∧ m' = m) (G := fun c m' => GL iX1_childrenKnown m' 2 [(2, 13), (0, n), (0, c)] [] Q) ?_ ?_ 0 m ⟨by decide, hkn.1, rfl⟩
  · rintro c m' hc ⟨c0, c1, rfl⟩ K
    refine sX1_childrenKnown_2 ?_
    have e := h.2.2.2.2.2.1 c c0 (by omega)
    have l := (kn_iff h.1 (n := n) c0 (by omega)).mpr hc
    rw [e1, e, jw_id (x := c + 1) (by omega) (by omega)]
    exact ⟨fun z => absurd z (by omega), fun _ => ⟨c0, by omega, fun z => absurd z (by omega), fun _ => K _ ⟨by omega, by omega, rfl⟩⟩⟩
  · rintro c m' hc ⟨c0, c1, rfl⟩
    obtain rfl : c = kn m' n := by omega
    refine sX1_childrenKnown_2 ?_
    rw [e1]
    refine ⟨fun _ => hQ, fun z => ?_⟩
    have e := h.2.2.2.2.2.1 (kn m' n) c0 (by omega)
    rw [e]
    refine ⟨c0, by omega, fun _ => hQ, fun z2 => ?_⟩
    have := (kn_iff h.1 (n := n) c0 (by omega)).mp (by omega)
    omega
theorem p_home {m : jM} {c day n : Int} (h : fcInv m) : ML iX10_home [(2, 0), (0, c), (0, day), (0, n)] m (fun r m1 => ML iX11_home [(2, 139), (0, c), (0, day), (0, n)] m1 (fun r' m2 => r = r' ∧ m2 = m)) := by
  have t := h.1.1
  have e0 : m 13 0 = m 139 44 := h.2.1
  by_cases hn : 0 ≤ n ∧ n ≤ m 139 44
  · have hkn := kn_nn m n t.2.2.1
    have hch : ∀ {Q : Int → jM → Prop}, ((0 ≤ c ∧ c < kn m n → Q 1 m) ∧ (¬ (0 ≤ c ∧ c < kn m n) → Q 0 m)) → ML iX11_isKnownChild [(2, 139), (0, c), (0, n)] m Q := by
      intro Q hQ
      refine sX11_isKnownChild (sX11_isChild ⟨fun z => ⟨fun _ => hQ.2 (by omega), fun z => absurd rfl z⟩, fun z => ⟨fun z2 => ⟨fun _ => hQ.2 (by omega), fun z => absurd rfl z⟩, fun z2 => ⟨fun z => absurd z (by decide), fun _ => ⟨by omega, by omega, fun z3 => hQ.2 (fun y => ?_), fun z3 => hQ.1 ⟨by omega, ?_⟩⟩⟩⟩⟩)
      · have := (kn_iff h.1 (n := n) y.1 (by omega)).mpr y.2
        omega
      · exact (kn_iff h.1 (n := n) (by omega) (by omega)).mp (by omega)
    by_cases hd : 0 ≤ day ∧ day < 365
    · obtain ⟨vk, vr, vc⟩ := vw_f h (k := 0) hd.1 hd.2 hn.1 hn.2
      by_cases hc : 0 ≤ c ∧ c < kn m n
      · refine sX10_home ?_
        repeat' (first
          | refine v_if (fun h => absurd h (by decide)) (fun _ => ?_)
          | refine v_if (fun _ => ?_) (fun h => absurd (by decide) h)
          | refine v_if (fun _ => ?_) (fun _ => ?_)
          | refine v_bd (by omega) (by omega) ?_
          | refine v_b0 ?_
          | refine v_b1 ?_
          | refine sX10_isDay ?_
          | refine sX10_knowsChild ?_
          | refine sX10_isKnowledge ?_
          | refine sX10_within ?_)
        all_goals try (exfalso; omega)
        refine c_childrenKnown h ?_
        repeat' (first
          | refine v_if (fun h => absurd h (by decide)) (fun _ => ?_)
          | refine v_if (fun _ => ?_) (fun h => absurd (by decide) h)
          | refine v_if (fun _ => ?_) (fun _ => ?_)
          | refine v_bd (by omega) (by omega) ?_
          | refine v_b0 ?_
          | refine v_b1 ?_
          | refine sX10_within ?_)
        all_goals try (exfalso; omega)
        refine c_homeC (V := vw m 0 day n) vk vc hc.1 hc.2 ?_
        refine sX11_home ?_
        repeat' (first
          | refine v_if (fun h => absurd h (by decide)) (fun _ => ?_)
          | refine v_if (fun _ => ?_) (fun h => absurd (by decide) h)
          | refine v_if (fun _ => ?_) (fun _ => ?_)
          | refine v_bd (by omega) (by omega) ?_
          | refine v_b0 ?_
          | refine v_b1 ?_
          | refine sX11_isKnown ?_)
        all_goals try (exfalso; omega)
        refine hch ⟨fun _ => ?_, fun z => absurd hc z⟩
        repeat' (first
          | refine v_if (fun h => absurd h (by decide)) (fun _ => ?_)
          | refine v_if (fun _ => ?_) (fun h => absurd (by decide) h)
          | refine v_if (fun _ => ?_) (fun _ => ?_)
          | refine v_bd (by omega) (by omega) ?_
          | refine v_b0 ?_
          | refine v_b1 ?_
          | refine sX11_isIn ?_)
        all_goals try (exfalso; omega)
        exact c_homeR (V := vw m 0 day n) vk vr hc.1 hc.2 ⟨rfl, rfl⟩
      · have k2 : ML iX11_home [(2, 139), (0, c), (0, day), (0, n)] m (fun r' m2 => -1 = r' ∧ m2 = m) := by
          refine sX11_home ?_
          repeat' (first
            | refine v_if (fun h => absurd h (by decide)) (fun _ => ?_)
            | refine v_if (fun _ => ?_) (fun h => absurd (by decide) h)
            | refine v_if (fun _ => ?_) (fun _ => ?_)
            | refine v_bd (by omega) (by omega) ?_
            | refine v_b0 ?_
            | refine v_b1 ?_
            | refine sX11_isKnown ?_)
          all_goals try (exfalso; omega)
          exact hch ⟨fun z => absurd z hc, fun _ => ⟨fun _ => ⟨rfl, rfl⟩, fun z => absurd rfl z⟩⟩
        refine sX10_home ?_
        repeat' (first
          | refine v_if (fun h => absurd h (by decide)) (fun _ => ?_)
          | refine v_if (fun _ => ?_) (fun h => absurd (by decide) h)
          | refine v_if (fun _ => ?_) (fun _ => ?_)
          | refine v_bd (by omega) (by omega) ?_
          | refine v_b0 ?_
          | refine v_b1 ?_
          | refine sX10_isDay ?_
          | refine sX10_knowsChild ?_
          | refine sX10_isKnowledge ?_
          | refine sX10_within ?_)
        all_goals try (exfalso; omega)
        refine c_childrenKnown h ?_
        repeat' (first
          | refine v_if (fun h => absurd h (by decide)) (fun _ => ?_)
          | refine v_if (fun _ => ?_) (fun h => absurd (by decide) h)
          | refine v_if (fun _ => ?_) (fun _ => ?_)
          | refine v_bd (by omega) (by omega) ?_
          | refine v_b0 ?_
          | refine v_b1 ?_
          | refine sX10_within ?_)
        all_goals first
          | exact k2
          | (exfalso; omega)
    · have k2 : ML iX11_home [(2, 139), (0, c), (0, day), (0, n)] m (fun r' m2 => -1 = r' ∧ m2 = m) := by
        refine sX11_home ?_
        repeat' (first
          | refine v_if (fun h => absurd h (by decide)) (fun _ => ?_)
          | refine v_if (fun _ => ?_) (fun h => absurd (by decide) h)
          | refine v_if (fun _ => ?_) (fun _ => ?_)
          | refine v_bd (by omega) (by omega) ?_
          | refine v_b0 ?_
          | refine v_b1 ?_
          | refine sX11_isKnown ?_)
        all_goals try (exfalso; omega)
        refine hch ⟨fun _ => ?_, fun _ => ⟨fun _ => ⟨rfl, rfl⟩, fun z => absurd rfl z⟩⟩
        repeat' (first
          | refine v_if (fun h => absurd h (by decide)) (fun _ => ?_)
          | refine v_if (fun _ => ?_) (fun h => absurd (by decide) h)
          | refine v_if (fun _ => ?_) (fun _ => ?_)
          | refine v_bd (by omega) (by omega) ?_
          | refine v_b0 ?_
          | refine v_b1 ?_
          | refine sX11_isIn ?_)
        all_goals first
          | exact ⟨rfl, rfl⟩
          | (exfalso; omega)
      refine sX10_home ?_
      repeat' (first
        | refine v_if (fun h => absurd h (by decide)) (fun _ => ?_)
        | refine v_if (fun _ => ?_) (fun h => absurd (by decide) h)
        | refine v_if (fun _ => ?_) (fun _ => ?_)
        | refine v_bd (by omega) (by omega) ?_
        | refine v_b0 ?_
        | refine v_b1 ?_
        | refine sX10_isDay ?_
        | refine sX10_within ?_)
      all_goals first
        | exact k2
        | (exfalso; omega)
  · have k2 : ML iX11_home [(2, 139), (0, c), (0, day), (0, n)] m (fun r' m2 => -1 = r' ∧ m2 = m) := by
      refine sX11_home ?_
      repeat' (first
        | refine v_if (fun h => absurd h (by decide)) (fun _ => ?_)
        | refine v_if (fun _ => ?_) (fun h => absurd (by decide) h)
        | refine v_if (fun _ => ?_) (fun _ => ?_)
        | refine v_bd (by omega) (by omega) ?_
        | refine v_b0 ?_
        | refine v_b1 ?_
        | refine sX11_isKnown ?_)
      all_goals first
        | exact ⟨rfl, rfl⟩
        | (exfalso; omega)
    refine sX10_home ?_
    repeat' (first
      | refine v_if (fun h => absurd h (by decide)) (fun _ => ?_)
      | refine v_if (fun _ => ?_) (fun h => absurd (by decide) h)
      | refine v_if (fun _ => ?_) (fun _ => ?_)
      | refine v_bd (by omega) (by omega) ?_
      | refine v_b0 ?_
      | refine v_b1 ?_
      | refine sX10_isDay ?_
      | refine sX10_knowsChild ?_
      | refine sX10_isKnowledge ?_
      | refine sX10_within ?_)
    all_goals first
      | exact k2
      | (exfalso; omega)
