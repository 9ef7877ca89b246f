/-! conds: the reference's items beside the class's -/
def rop (k : Int) : Int := if k = 25 then 2 else if k = 26 then 3 else if k = 27 then 4 else 0
def rkR (a : Int) : Int := if a = 4 then 2 else if a ≤ 1 then 0 else 1
def uOk (U : List Int) : Prop := ∀ k ∈ U, k = 25 ∨ k = 26 ∨ k = 27 ∨ k = 32
/-- brackets that wait -/
def bC : List Int → Int
  | [] => 0
  | k :: r => (if k = 32 then 1 else 0) + bC r
theorem bC_nn : ∀ U : List Int, 0 ≤ bC U := by
  intro U
  induction U with
  | nil => exact Int.le_refl _
  | cons k r ih => simp only [bC]; split <;> omega
def wtR (U : List Int) (m : jM) : Prop := m 139 65 = (U.length : Int) ∧ stkR (m 189) (U.map rop)
/-- what the class's code is worth so far -/
def cS (V : jM) (x : Int → Int) (st : Int) : List Int := cEv (V 32) x st (V 0 16 - st).toNat
/-- what the reference's is -/
def rSv (k : Int) (m : jM) (x : Int → Int) (ea : Int) : List Int := rEv (vw m k 0 0 22) (vw m k 0 0 23) x ea (m 162 k - 500 * k - ea).toNat
theorem vw22 {m : jM} {k i : Int} (i0 : 0 ≤ i) (i1 : i < 500) : vw m k 0 0 22 i = m 163 (500 * k + i) := cut_in (f := fun i => m 163 (500 * k + i)) i0 i1
theorem vw23 {m : jM} {k i : Int} (i0 : 0 ≤ i) (i1 : i < 500) : vw m k 0 0 23 i = m 164 (500 * k + i) := cut_in (f := fun i => m 164 (500 * k + i)) i0 i1
theorem cEv_cg {f g x : Int → Int} {a : Int} : ∀ j : Nat, (∀ i, a ≤ i → i < a + j → f i = g i) → cEv f x a j = cEv g x a j := by
  intro j
  induction j with
  | zero => intro _; rfl
  | succ j ih =>
    intro h
    simp only [cEv]
    rw [h (a + j) (by omega) (by omega), ih (fun i i0 i1 => h i i0 (by omega))]
theorem rEv_cg {O W O' W' x : Int → Int} {a : Int} : ∀ j : Nat, (∀ i, a ≤ i → i < a + j → O i = O' i ∧ W i = W' i) → rEv O W x a j = rEv O' W' x a j := by
  intro j
  induction j with
  | zero => intro _; rfl
  | succ j ih =>
    intro h
    have := h (a + j) (by omega) (by omega)
    simp only [rEv]
    rw [this.1, this.2, ih (fun i i0 i1 => h i i0 (by omega))]
theorem cS_cd {V : jM} {x : Int → Int} {st c : Int} (h : st ≤ V 0 16) : cS (cdF c V) x st = cx x c (cS V x st) := by
  unfold cS
  have e16 : cdF c V 0 16 = V 0 16 + 1 := rfl
  rw [e16, show (V 0 16 + 1 - st).toNat = (V 0 16 - st).toNat + 1 by omega]
  simp only [cEv]
  rw [show st + (((V 0 16 - st).toNat : Nat) : Int) = V 0 16 by omega]
  have e32 : ∀ i, cdF c V 32 i = if i = V 0 16 then c else V 32 i := fun i => by unfold cdF; rw [jup_ne (by decide), jup_self]
  rw [e32, if_pos rfl, cEv_cg (g := V 32) _ (fun i i0 i1 => by rw [e32, if_neg (by omega)])]
theorem cS_V {V V' : jM} {x : Int → Int} {st : Int} (h : V' 0 16 = V 0 16) (h32 : ∀ i, i < V 0 16 → V' 32 i = V 32 i) : cS V' x st = cS V x st := by
  unfold cS
  rw [h]
  exact cEv_cg _ (fun i i0 i1 => h32 i (by omega))
theorem cOk_ext {f f' : Int → Int} {a b c : Int} (h : cOk f a b) (hb : b < 400) (hf : ∀ i, i < b → f' i = f i) (hc : f' b = c) (hr : -2147483648 ≤ c ∧ c ≤ 2147483647) (hs : ∀ x, (cEv f x a (b - a).toNat).length ≤ 32 ∧ (cPush c → (cEv f x a (b - a).toNat).length < 32)) : cOk f' a (b + 1) := by
  obtain ⟨h0, h1, h2, h3⟩ := h
  refine ⟨h0, by omega, by omega, fun x j j0 j1 => ?_⟩
  rw [cEv_cg (g := f) j (fun i i0 i1 => hf i (by omega))]
  by_cases e : a + (j : Int) = b
  · rw [e, hc]
    rw [show (b - a).toNat = j by omega] at hs
    exact ⟨hr, hs x⟩
  · rw [hf _ (by omega)]
    exact h3 x j j0 (by omega)
theorem rOk_ext {O W O' W' : Int → Int} {a b p v : Int} (h : rOk O W a b) (hb : b < 500) (hf : ∀ i, i < b → O i = O' i ∧ W i = W' i) (hp : O' b = p) (hv : W' b = v) (h1 : p = 1 → 0 ≤ v ∧ v < 5) (h2 : 0 ≤ p) (hs : ∀ x, (2 ≤ p → 2 ≤ (rEv O W x a (b - a).toNat).length) ∧ (rEv O W x a (b - a).toNat).length < 500) : rOk O' W' a (b + 1) := by
  obtain ⟨g0, g1, g2, g3⟩ := h
  refine ⟨g0, by omega, by omega, fun x j j1 => ?_⟩
  rw [← rEv_cg (O := O) (W := W) j (fun i i0 i1 => hf i (by omega))]
  by_cases e : a + (j : Int) = b
  · rw [e, hp, hv]
    rw [show (b - a).toNat = j by omega] at hs
    exact ⟨h1, h2, (hs x).1, (hs x).2⟩
  · rw [← (hf (a + j) (by omega)).1, ← (hf (a + j) (by omega)).2]
    exact g3 x j (by omega)
/-- within an expr: the class's values are the reference's above those that waited -/
def exI (k st ea : Int) (s : (Int → Int) → List Int) (due : Int) (U : List Int) (V m : jM) : Prop := (0 ≤ k ∧ k < 3 ∧ m 139 13 = k) ∧ (0 ≤ st ∧ st ≤ V 0 16 ∧ V 0 16 ≤ 400) ∧ (0 ≤ ea ∧ ea ≤ m 162 k - 500 * k ∧ m 162 k - 500 * k ≤ V 0 16) ∧ rOk (vw m k 0 0 22) (vw m k 0 0 23) ea (m 162 k - 500 * k) ∧ cOk (V 32) st (V 0 16) ∧ (0 ≤ due ∧ due ≤ 1) ∧ ∀ x, cS V x st = rSv k m x ea ++ s x ∧ ((rSv k m x ea).length : Int) = nbW U + (1 - due) ∧ nbW U + ((s x).length : Int) ≤ 17
theorem exI_cg {k st ea due : Int} {s : (Int → Int) → List Int} {U : List Int} {V m m' : jM} (h : exI k st ea s due U V m) (hr : ∀ q, q = 162 ∨ q = 163 ∨ q = 164 → m' q = m q) (h13 : m' 139 13 = m 139 13) : exI k st ea s due U V m' := by
  have e22 : vw m' k 0 0 22 = vw m k 0 0 22 := by
    show cut 500 (fun i => m' 163 (500 * k + i)) = cut 500 (fun i => m 163 (500 * k + i))
    rw [hr 163 (by omega)]
  have e23 : vw m' k 0 0 23 = vw m k 0 0 23 := by
    show cut 500 (fun i => m' 164 (500 * k + i)) = cut 500 (fun i => m 164 (500 * k + i))
    rw [hr 164 (by omega)]
  unfold exI rSv at *
  rw [e22, e23, hr 162 (by omega), h13]
  exact h
/-- an item put into both codes -/
def emM (k a b : Int) (m : jM) : jM := jup (jup (jup m 163 (m 162 k) a) 164 (m 162 k) b) 162 k (m 162 k + 1)
theorem exI_em {k st ea due due' a b c : Int} {s : (Int → Int) → List Int} {U U' : List Int} {V m : jM} (h : exI k st ea s due U V m) (hl : V 0 16 < 400) (ha : 0 ≤ a) (hb : a = 1 → 0 ≤ b ∧ b < 5) (hc : -2147483648 ≤ c ∧ c ≤ 2147483647) (hd : 0 ≤ due' ∧ due' ≤ 1) (hU : nbW U' ≤ nbW U) (hx : ∀ x, cx x c (rSv k m x ea ++ s x) = rx x a b (rSv k m x ea) ++ s x ∧ ((rx x a b (rSv k m x ea)).length : Int) = nbW U' + (1 - due') ∧ (2 ≤ a → 2 ≤ (rSv k m x ea).length)) : exI k st ea s due' U' (cdF c V) (emM k a b m) := by
  obtain ⟨h1, h2, h3, h4, h5, h6, h7⟩ := h
  have e162 : emM k a b m 162 k = m 162 k + 1 := by unfold emM; rw [jup_s]
  have e22 : ∀ i, i ≠ m 162 k - 500 * k → vw (emM k a b m) k 0 0 22 i = vw m k 0 0 22 i := by
    intro i hi
    show cut 500 (fun i => emM k a b m 163 (500 * k + i)) i = cut 500 (fun i => m 163 (500 * k + i)) i
    unfold cut
    split
    · show emM k a b m 163 (500 * k + i) = _
      unfold emM
      rw [jup_ne (by decide), jup_ne (by decide), jup_j (by omega)]
    · rfl
  have e23 : ∀ i, i ≠ m 162 k - 500 * k → vw (emM k a b m) k 0 0 23 i = vw m k 0 0 23 i := by
    intro i hi
    show cut 500 (fun i => emM k a b m 164 (500 * k + i)) i = cut 500 (fun i => m 164 (500 * k + i)) i
    unfold cut
    split
    · show emM k a b m 164 (500 * k + i) = _
      unfold emM
      rw [jup_ne (by decide), jup_j (by omega), jup_ne (by decide)]
    · rfl
  have n22 : vw (emM k a b m) k 0 0 22 (m 162 k - 500 * k) = a := by
    rw [vw22 (by omega) (by omega), show 500 * k + (m 162 k - 500 * k) = m 162 k by omega]
    unfold emM
    rw [jup_ne (by decide), jup_ne (by decide), jup_s]
  have n23 : vw (emM k a b m) k 0 0 23 (m 162 k - 500 * k) = b := by
    rw [vw23 (by omega) (by omega), show 500 * k + (m 162 k - 500 * k) = m 162 k by omega]
    unfold emM
    rw [jup_ne (by decide), jup_s]
  have e16 : cdF c V 0 16 = V 0 16 + 1 := rfl
  have e32 : ∀ i, cdF c V 32 i = if i = V 0 16 then c else V 32 i := fun i => by unfold cdF; rw [jup_ne (by decide), jup_self]
  have rs : ∀ x, rSv k (emM k a b m) x ea = rx x a b (rSv k m x ea) := by
    intro x
    unfold rSv
    rw [e162, show (m 162 k + 1 - 500 * k - ea).toNat = (m 162 k - 500 * k - ea).toNat + 1 by omega]
    simp only [rEv]
    rw [show ea + (((m 162 k - 500 * k - ea).toNat : Nat) : Int) = m 162 k - 500 * k by omega, n22, n23, rEv_cg (O' := vw m k 0 0 22) (W' := vw m k 0 0 23) _ (fun i i0 i1 => ⟨e22 i (by omega), e23 i (by omega)⟩)]
  refine ⟨⟨h1.1, h1.2.1, by unfold emM; rw [jup_ne (by decide), jup_ne (by decide), jup_ne (by decide)]; exact h1.2.2⟩, by rw [e16]; omega, by rw [e162, e16]; omega, ?_, ?_, hd, fun x => ?_⟩
  · rw [e162, show m 162 k + 1 - 500 * k = m 162 k - 500 * k + 1 by omega]
    refine rOk_ext h4 (by omega) (fun i hi => ⟨(e22 i (by omega)).symm, (e23 i (by omega)).symm⟩) n22 n23 hb ha (fun x => ⟨(hx x).2.2, ?_⟩)
    have q := (h7 x).2
    unfold rSv at q
    omega
  · rw [e16]
    refine cOk_ext h5 hl (fun i hi => by rw [e32, if_neg (by omega)]) (by rw [e32, if_pos rfl]) hc (fun x => ?_)
    have q := h7 x
    have e : (cEv (V 32) x st (V 0 16 - st).toNat).length = (rSv k m x ea).length + (s x).length := by
      have : cEv (V 32) x st (V 0 16 - st).toNat = rSv k m x ea ++ s x := q.1
      rw [this, List.length_append]
    omega
  · rw [cS_cd h2.2.1, rs, (h7 x).1]
    refine ⟨(hx x).1, (hx x).2.1, ?_⟩
    have := (h7 x).2.2
    omega
theorem exI_push {k st ea a b c : Int} {s : (Int → Int) → List Int} {U : List Int} {V m : jM} (h : exI k st ea s 1 U V m) (hl : V 0 16 < 400) (hc : (a = 0 ∧ b = c ∧ 0 ≤ c ∧ c ≤ 9999) ∨ (a = 1 ∧ 0 ≤ b ∧ b < 5 ∧ c = -(b + 17) - 1)) : exI k st ea s 0 U (cdF c V) (emM k a b m) := by
  refine exI_em h hl (by omega) (by omega) (by omega) (by decide) (Int.le_refl _) (fun x => ?_)
  have q := (h.2.2.2.2.2.2 x).2.1
  rcases hc with ⟨rfl, rfl, c0, c1⟩ | ⟨rfl, b0, b1, rfl⟩
  · have e1 : cx x b (rSv k m x ea ++ s x) = b :: (rSv k m x ea ++ s x) := by unfold cx; rw [if_pos c0]
    have e2 : rx x 0 b (rSv k m x ea) = b :: rSv k m x ea := by unfold rx; rw [if_pos (by decide), if_pos rfl]
    rw [e1, e2]
    refine ⟨rfl, ?_, fun w => absurd w (by decide)⟩
    simp only [List.length_cons]
    omega
  · have e1 : cx x (-(b + 17) - 1) (rSv k m x ea ++ s x) = x b :: (rSv k m x ea ++ s x) := by
      unfold cx
      rw [if_neg (by omega), if_pos (by omega), show -(-(b + 17) - 1) - 1 - 17 = b by omega]
    have e2 : rx x 1 b (rSv k m x ea) = x b :: rSv k m x ea := by unfold rx; rw [if_pos (by decide), if_neg (by decide)]
    rw [e1, e2]
    refine ⟨rfl, ?_, fun w => absurd w (by decide)⟩
    simp only [List.length_cons]
    omega
theorem exI_op {k st ea kk : Int} {s : (Int → Int) → List Int} {U : List Int} {V m : jM} (h : exI k st ea s 0 (kk :: U) V m) (hl : V 0 16 < 400) (hk : kk = 25 ∨ kk = 26 ∨ kk = 27) (hn : 0 ≤ nbW U) : exI k st ea s 0 U (cdF (-kk - 1) V) (emM k (rop kk) 0 m) := by
  have nb : nbW (kk :: U) = 1 + nbW U := by simp only [nbW]; rw [if_neg (by omega)]
  have ra : rop kk = kk - 23 := by
    rcases hk with rfl | rfl | rfl <;> decide
  refine exI_em h hl (by omega) (by omega) (by omega) (by decide) (by omega) (fun x => ?_)
  have q := (h.2.2.2.2.2.2 x).2.1
  rw [nb] at q
  match hs : rSv k m x ea, q with
  | [], q => simp only [List.length_nil] at q; omega
  | [v], q => simp only [List.length_cons, List.length_nil] at q; omega
  | b :: a :: r, q =>
    simp only [List.length_cons] at q
    have e1 : cx x (-kk - 1) (b :: a :: r ++ s x) = cmb kk a b :: (r ++ s x) := by
      unfold cx
      rw [if_neg (by omega), if_neg (by omega), if_neg (by omega), show -(-kk - 1) - 1 = kk by omega]
      rfl
    have e2 : rx x (rop kk) 0 (b :: a :: r) = cmb kk a b :: r := by
      unfold rx cmb
      rw [if_neg (by omega)]
      rcases hk with rfl | rfl | rfl <;> rfl
    rw [e1, e2]
    refine ⟨rfl, ?_, fun _ => by simp only [List.length_cons]; omega⟩
    simp only [List.length_cons]
    omega
theorem nbW32 {r : List Int} : nbW (32 :: r) = nbW r := by simp [nbW]
theorem bC32 {r : List Int} : bC (32 :: r) = 1 + bC r := by simp [bC]
theorem nbW_nn : ∀ U : List Int, 0 ≤ nbW U := by
  intro U
  induction U with
  | nil => exact Int.le_refl _
  | cons k r ih => simp only [nbW]; split <;> omega
/-- what items and waiting operators change -/
def okK (k c0 q i : Int) : Prop := (q ≠ 139 ∧ q ≠ 162 ∧ q ≠ 163 ∧ q ≠ 164 ∧ q ≠ 189) ∨ (q = 139 ∧ i ≠ 65) ∨ (q = 162 ∧ i ≠ k) ∨ ((q = 163 ∨ q = 164) ∧ (i < 500 * k + c0 ∨ 500 * k + 500 ≤ i))
def rdK (k c0 : Int) (m m' : jM) : Prop := ∀ q i, okK k c0 q i → m' q i = m q i
theorem rdK_rf {k c0 : Int} {m : jM} : rdK k c0 m m := fun _ _ _ => rfl
theorem rdK_tr {k c0 : Int} {m m1 m2 : jM} (h : rdK k c0 m m1) (h2 : rdK k c0 m1 m2) : rdK k c0 m m2 := fun q i hq => (h2 q i hq).trans (h q i hq)
theorem rdK_up {k c0 : Int} {m m' : jM} {p i x : Int} (h : rdK k c0 m m') (hp : ¬ okK k c0 p i) : rdK k c0 m (jup m' p i x) := fun q j hq => by
  by_cases e : q = p ∧ j = i
  · rw [e.1, e.2] at hq; exact absurd hq hp
  · show (if q = p ∧ j = i then x else m' q j) = _
    rw [if_neg e]; exact h q j hq
theorem rdK_row {k c0 : Int} {m m' : jM} (h : rdK k c0 m m') {q : Int} (hq : q ≠ 139 ∧ q ≠ 162 ∧ q ≠ 163 ∧ q ≠ 164 ∧ q ≠ 189) : m' q = m q := by
  funext i
  exact h q i (Or.inl hq)
theorem rdK_mn {k c0 c1 : Int} {m m' : jM} (h : rdK k c1 m m') (hc : c0 ≤ c1) : rdK k c0 m m' := fun q i hq => h q i (by unfold okK at *; omega)
theorem rX_K {K S W : Int → Int} {n k c c0 : Int} {V m m' : jM} {P : Int × Int × Int} (h : rX K S W n k m P V c m) (hf : rdK k c0 m m') : rX K S W n k m' P V c m' :=
  ⟨rdH_rf, rTk_cg h.2.1 (fun q hq => rdK_row hf (by omega)), rPs_cg h.2.2.1 (fun i hi => hf 139 i (by unfold okK; omega)), rMn_cg h.2.2.2 (fun q hq => rdK_row hf (by omega)) (fun i hi => hf 139 i (by unfold okK; omega))⟩
theorem emM_K {k c0 a b : Int} {m : jM} (h : c0 ≤ m 162 k - 500 * k ∧ m 162 k - 500 * k < 500) : rdK k c0 m (emM k a b m) := by
  unfold emM
  exact rdK_up (rdK_up (rdK_up rdK_rf (by unfold okK; omega)) (by unfold okK; omega)) (by unfold okK; omega)
theorem c_emit {k a b : Int} {m : jM} {Q : Int → jM → Prop} (h1 : 0 ≤ k ∧ k < 3 ∧ m 139 13 = k) (h2 : 0 ≤ m 162 k - 500 * k ∧ m 162 k - 500 * k < 400) (hQ : Q 0 (emM k a b m)) : ML iX11_emit [(2, 139), (0, a), (0, b)] m Q := by
  refine sX11_emit ?_
  rw [h1.2.2, jw_id (x := m 162 k + 1) (by omega) (by omega)]
  exact ⟨h1.1, h1.2.1, by omega, by omega, h1.1, h1.2.1, by omega, by omega, h1.1, h1.2.1, h1.1, h1.2.1, hQ⟩
theorem c_rankR {m : jM} {Q : Int → jM → Prop} {a : Int} (hQ : Q (rkR a) m) : ML iX11_rank [(0, a)] m Q := by
  unfold rkR at hQ
  refine sX11_rank ⟨fun z => ⟨fun z2 => ?_, fun z2 => ?_⟩, fun z => ?_⟩
  · rw [if_neg z, if_pos z2] at hQ; exact hQ
  · rw [if_neg z, if_neg z2] at hQ; exact hQ
  · rw [if_pos (Classical.byContradiction z)] at hQ; exact hQ
theorem c_reduceR {k st ea lst sg c0 : Int} {s : (Int → Int) → List Int} {Q : Int → jM → Prop} (hls : ∀ kk, kk = 25 ∨ kk = 26 ∨ kk = 27 ∨ kk = 32 → (rkR (rop kk) < lst ↔ stg kk < sg)) (hsg : 1 ≤ sg) (hc0 : c0 ≤ ea) : ∀ {U : List Int} {V m : jM}, exI k st ea s 0 U V m → wtR U m → uOk U → V 0 16 + (U.length : Int) ≤ 400 → (∀ m', rdK k c0 m m' → exI k st ea s 0 (stl sg U V).1 (stl sg U V).2 m' → wtR (stl sg U V).1 m' → Q 0 m') → GL iX11_reduce m 0 [(2, 139), (0, lst), (0, 0)] [] Q := by
  intro U
  induction U with
  | nil =>
    intro V m hE hW _ _ hQ
    refine sX11_reduce_0 ⟨fun _ => hQ m rdK_rf hE hW, fun z => absurd ?_ z⟩
    rw [hW.1]
    simp
  | cons kk U ih =>
    intro V m hE hW hO hl hQ
    have e1 : m 139 65 = (U.length : Int) + 1 := by rw [hW.1]; simp
    have hl' : V 0 16 + (U.length : Int) + 1 ≤ 400 := by simp only [List.length_cons] at hl; omega
    have top : m 189 (U.length : Int) = rop kk := by
      have := hW.2.1
      rw [List.length_map] at this
      exact this
    have kb := hO kk (by simp)
    have r1 := hE.2.1
    have r2 := hE.2.2.1
    refine sX11_reduce_0 ?_
    rw [e1, jw_id (x := (U.length : Int) + 1 - 1) (by omega) (by omega), show (U.length : Int) + 1 - 1 = (U.length : Int) by omega, top]
    refine ⟨fun z => absurd z (by omega), fun _ => ⟨by omega, by omega, c_rankR ?_⟩⟩
    rw [e1, jw_id (x := (U.length : Int) + 1 - 1) (by omega) (by omega), show (U.length : Int) + 1 - 1 = (U.length : Int) by omega, top]
    simp only [stl] at hQ
    have hh := hls kk kb
    refine ⟨fun z => ?_, fun z => ⟨by omega, by omega, ?_⟩⟩
    · rw [if_neg (by omega)] at hQ
      exact hQ m rdK_rf hE hW
    · rw [if_pos (by omega)] at hQ
      have k3 : kk = 25 ∨ kk = 26 ∨ kk = 27 := by
        rcases kb with w | w | w | w
        · omega
        · omega
        · omega
        · exfalso
          rw [w] at hh z
          have : stg 32 = 0 := rfl
          omega
      have E1 : exI k st ea s 0 (kk :: U) V (jup m 139 65 (U.length : Int)) := exI_cg hE (fun q hq => jup_ne (by omega)) (jup_j (by decide))
      have m1 : (jup m 139 65 (U.length : Int)) 162 = m 162 := jup_ne (by decide)
      refine c_emit E1.1 (by rw [m1]; omega) ?_
      have E2 := exI_op E1 (by omega) k3 (nbW_nn U)
      refine ih E2 ⟨?_, ?_⟩ (fun x hx => hO x (by simp [hx])) (by have e2 : cdF (-kk - 1) V 0 16 = V 0 16 + 1 := rfl; omega) (fun m3 f3 E3 W3 => hQ m3 ?_ E3 W3)
      · unfold emM
        rw [jup_ne (by decide), jup_ne (by decide), jup_ne (by decide), jup_s]
      · have e189 : (emM k (rop kk) 0 (jup m 139 65 (U.length : Int))) 189 = m 189 := by
          unfold emM
          rw [jup_ne (by decide), jup_ne (by decide), jup_ne (by decide), jup_ne (by decide)]
        rw [e189]
        exact hW.2.2
      · refine rdK_tr (rdK_tr (m1 := jup m 139 65 (U.length : Int)) (rdK_up rdK_rf (by unfold okK; omega)) (emM_K (by rw [m1]; omega))) f3
theorem c_awaitR {k c0 kk : Int} {U : List Int} {m : jM} {Q : Int → jM → Prop} (hW : wtR U m) (hl : (U.length : Int) < 500) (hQ : ∀ m', rdK k c0 m m' → (∀ q, q ≠ 139 → q ≠ 189 → m' q = m q) → wtR (kk :: U) m' → Q 0 m') : ML iX11_await [(2, 139), (0, rop kk)] m Q := by
  obtain ⟨w1, w2⟩ := hW
  refine sX11_await ?_
  rw [w1, jw_id (x := (U.length : Int) + 1) (by omega) (by omega)]
  refine ⟨by omega, hl, hQ _ (rdK_up (rdK_up rdK_rf (by unfold okK; omega)) (by unfold okK; omega)) (fun q a b => by rw [jup_ne a, jup_ne b]) ⟨?_, ?_, ?_⟩⟩
  · rw [jup_s]; simp
  · rw [jup_ne (by decide), List.length_map, jup_s]
  · rw [jup_ne (by decide)]
    exact stkR_cg w2 (fun i i0 i1 => by rw [List.length_map] at i1; rw [jup_self, if_neg (by omega)])
