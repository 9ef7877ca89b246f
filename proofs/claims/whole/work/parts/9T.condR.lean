/-! a cond in the reference -/
def rdG (k c0 : Int) (m m' : jM) : Prop := ∀ q i, okK k c0 q i → okH q i → ¬ (q = 139 ∧ i = 67) → m' q i = m q i
theorem c_exprR {K S W : Int → Int} {n k c st ea : Int} {s : (Int → Int) → List Int} {L : List Int} {V0 V m : jM} {P : Int × Int × Int} {Q : Int → jM → Prop} {F f : Nat} {X0 : XR} (hv : tV K W n) (hL : hdS L ≤ 4) (hs : ∀ x, ((s x).length : Int) = nbW L) (hX : rX K S W n k m P V0 c m) (hea : ea = m 162 k - 500 * k) (hcd : 0 ≤ ea ∧ ea ≤ V 0 16) (hst : 0 ≤ st ∧ st ≤ V 0 16 ∧ V 0 16 ≤ 400) (hok : cOk (V 32) st (V 0 16)) (hsV : ∀ x, cS V x st = s x) (d20 : V 0 20 = 1) (d23 : V 0 23 = 0) (h16 : K P.1 ≠ 16 ∨ V 0 21 = 0) (hXI : XI n (P, L, V)) (hx : xlp K S W F X0 = xlp K S W f (P, L, V)) (hf : 401 - P.1 ≤ f) (hz : P.2.1 = 0)
    (hQ0 : ∀ m', rdG k ea m m' → rTk K S W n m' → (xlp K S W F X0).1.2.1 ≠ 0 → rPs (xlp K S W F X0).1 m' → Q 0 m')
    (hQ1 : ∀ (f' : Nat) (P' : Int × Int × Int) (U' : List Int) (V' V1 m' : jM), xlp K S W F X0 = xlp K S W f' (P', U' ++ L, V') → 401 - P'.1 ≤ f' → P.1 ≤ P'.1 → P'.2.1 = 0 → XI n (P', U' ++ L, V') → V' 0 20 = 0 → V' 0 23 = 0 → K P'.1 ≠ 25 → K P'.1 ≠ 26 → K P'.1 ≠ 27 → (∀ sg, 1 ≤ sg → sg ≤ 5 → stl sg (U' ++ L) V' = stl sg L V1) → exV V V' → exV V' V1 ∧ (∀ j, j ≠ 16 → V1 0 j = V' 0 j) → rdG k ea m m' → rX K S W n k m' P' V0 c m' → exI k st ea s 0 [] V1 m' → m' 139 67 = ea + 500 * k → Q 1 m') : ML iX11_expr [(2, 139)] m Q := by
  have c1 := hX.2.2.2.1
  have kb := c1.1.1
  have kb2 := c1.1.2.1
  have bd := nbW_bd hXI.1
  simp only [d23] at bd
  refine sX11_expr ?_
  rw [c1.1.2.2]
  generalize hm1 : jup (jup m 139 67 (m 162 k)) 139 65 0 = m1
  have r1 : ∀ q, q ≠ 139 → m1 q = m q := fun q hq => by rw [← hm1, jup_ne hq, jup_ne hq]
  have f1 : ∀ i, i ≠ 65 → i ≠ 67 → m1 139 i = m 139 i := fun i a b => by rw [← hm1, jup_j a, jup_j b]
  have g1 : rdG k ea m m1 := fun q i a b d => by
    by_cases e : q = 139
    · subst e
      unfold okK at a
      exact f1 i (by omega) (by omega)
    · rw [r1 q e]
  have gE : ∀ {m'}, rdE k ea m1 m' → rdG k ea m m' := fun h q i a b d => (h q i a b).trans (g1 q i a b d)
  have X1 : rX K S W n k m1 P V0 c m1 := ⟨rdH_rf, rTk_cg hX.2.1 (fun q hq => r1 q (by omega)), rPs_cg hX.2.2.1 (fun i hi => f1 i (by omega) (by omega)), rMn_cg hX.2.2.2 (fun q hq => r1 q (by omega)) (fun i hi => f1 i (by omega) (by omega))⟩
  have e162 : m1 162 = m 162 := r1 162 (by decide)
  have g := c_exprLoop (Q := Q) (m0 := m1) (V0 := V0) (Va := V) (F := F) (X0 := X0) (c := c) (Pa := P.1) hv (Int.le_refl ea) hL hs (fun m' a b d e => hQ0 m' (gE a) b d e) (fun f' P' U' V' V1 m' a1 a2 a2' a3 a4 a5 a6 a7 a8 a9 b1 b2 b3 b4 b5 b6 b7 => hQ1 f' P' U' V' V1 m' a1 a2 a2' a3 a4 a5 a6 a7 a8 a9 b1 b2 b3 (gE b4) b5 b6 b7) f P [] V m1 hx hf (Int.le_refl _) hz h16 exV_rf ⟨rdE_rf, X1, ?_, ⟨by rw [← hm1, jup_s]; rfl, trivial⟩, fun k hk => (by cases hk), d23, hXI, ?_⟩
  · rw [d23, d20] at g
    exact ⟨kb, kb2, g⟩
  · have z : (m1 162 k - 500 * k - ea).toNat = 0 := by rw [e162]; omega
    have rz : ∀ x, rSv k m1 x ea = [] := fun x => by unfold rSv; rw [z]; rfl
    rw [d20]
    refine ⟨⟨kb, kb2, by rw [f1 13 (by decide) (by decide)]; exact c1.1.2.2⟩, hst, by rw [e162]; omega, ⟨by omega, by rw [e162]; omega, by rw [e162]; omega, fun x j hj => by rw [e162] at hj; omega⟩, hok, by decide, fun x => ?_⟩
    rw [rz, hsV]
    exact ⟨rfl, rfl, by have := hs x; have e : nbW [] = 0 := rfl; omega⟩
  · rw [← hm1, jup_j (by decide), jup_s]; omega
/-- what a cond changes -/
def okC (k c0 l0 q i : Int) : Prop := (q ≠ 139 ∧ (q < 162 ∨ 171 < q) ∧ q ≠ 172 ∧ q ≠ 173 ∧ q ≠ 189) ∨ (q = 139 ∧ i ≠ 7 ∧ i ≠ 8 ∧ i ≠ 9 ∧ i ≠ 10 ∧ i ≠ 11 ∧ i ≠ 41 ∧ i ≠ 64 ∧ i ≠ 65 ∧ i ≠ 67 ∧ i ≠ 68) ∨ ((q = 162 ∨ q = 165) ∧ i ≠ k) ∨ ((q = 163 ∨ q = 164) ∧ (i < 500 * k + c0 ∨ 500 * k + 500 ≤ i)) ∨ (166 ≤ q ∧ q ≤ 171 ∧ (i < 200 * k + l0 ∨ 200 * k + 200 ≤ i))
def rdC (k c0 l0 : Int) (m m' : jM) : Prop := ∀ q i, okC k c0 l0 q i → m' q i = m q i
theorem rdC_rf {k c0 l0 : Int} {m : jM} : rdC k c0 l0 m m := fun _ _ _ => rfl
theorem rdC_tr {k c0 l0 : Int} {m m1 m2 : jM} (h : rdC k c0 l0 m m1) (h2 : rdC k c0 l0 m1 m2) : rdC k c0 l0 m m2 := fun q i hq => (h2 q i hq).trans (h q i hq)
theorem rdC_H {k c0 l0 : Int} {m m' : jM} (h : rdH m m') : rdC k c0 l0 m m' := fun q i hq => h q i (by unfold okC at hq; unfold okH; omega)
theorem rdC_G {k c0 c1 l0 : Int} {m m' : jM} (h : rdG k c1 m m') (hc : c0 ≤ c1) : rdC k c0 l0 m m' := fun q i hq => h q i (by unfold okC at hq; unfold okK; omega) (by unfold okC at hq; unfold okH; omega) (by unfold okC at hq; omega)
theorem rdC_up {k c0 l0 : Int} {m m' : jM} {p i x : Int} (h : rdC k c0 l0 m m') (hp : ¬ okC k c0 l0 p i) : rdC k c0 l0 m (jup m' p i x) := fun q j hq => by
  by_cases e : q = p ∧ j = i
  · rw [e.1, e.2] at hq; exact absurd hq hp
  · show (if q = p ∧ j = i then x else m' q j) = _
    rw [if_neg e]; exact h q j hq
theorem rX_C {K S W : Int → Int} {n k c : Int} {V m m' : jM} {P : Int × Int × Int} (h : rX K S W n k m P V c m) (hr : ∀ q, (q < 162 ∨ q = 172 ∨ q = 173) → m' q = m q) : rX K S W n k m' P V c m' :=
  ⟨rdH_rf, rTk_cg h.2.1 (fun q hq => hr q (by omega)), rPs_cg h.2.2.1 (fun i hi => by rw [hr 139 (by decide)]), rMn_cg h.2.2.2 (fun q hq => hr q (by omega)) (fun i hi => by rw [hr 139 (by decide)])⟩
/-- a lit as it must be, its code below cd -/
def ltI (k cd : Int) (m : jM) (i : Int) : Prop := litK (vw m k 0 0) i ∧ vw m k 0 0 28 i ≤ cd
theorem vwL {m : jM} {k i : Int} (i0 : 0 ≤ i) (i1 : i < 200) : vw m k 0 0 24 i = m 166 (200 * k + i) ∧ vw m k 0 0 25 i = m 167 (200 * k + i) ∧ vw m k 0 0 26 i = m 168 (200 * k + i) - 500 * k ∧ vw m k 0 0 27 i = m 169 (200 * k + i) - 500 * k ∧ vw m k 0 0 28 i = m 170 (200 * k + i) - 500 * k ∧ vw m k 0 0 29 i = m 171 (200 * k + i) :=
  ⟨cut_in (f := fun i => m 166 (200 * k + i)) i0 i1, cut_in (f := fun i => m 167 (200 * k + i)) i0 i1, cut_in (f := fun i => m 168 (200 * k + i) - 500 * k) i0 i1, cut_in (f := fun i => m 169 (200 * k + i) - 500 * k) i0 i1, cut_in (f := fun i => m 170 (200 * k + i) - 500 * k) i0 i1, cut_in (f := fun i => m 171 (200 * k + i)) i0 i1⟩
theorem rOk_cg {O W O' W' : Int → Int} {a b : Int} (h : rOk O W a b) (hc : ∀ i, a ≤ i → i < b → O i = O' i ∧ W i = W' i) : rOk O' W' a b := by
  obtain ⟨h0, h1, h2, h3⟩ := h
  refine ⟨h0, h1, h2, fun x j hj => ?_⟩
  rw [← rEv_cg (O := O) (W := W) j (fun i i0 i1 => hc i i0 (by omega)), ← (hc (a + j) (by omega) hj).1, ← (hc (a + j) (by omega) hj).2]
  exact h3 x j hj
theorem lt_fr {k cd i : Int} {m m' : jM} (i0 : 0 ≤ i) (i1 : i < 200) (h : ltI k cd m i) (hcd : cd ≤ 500) (hl : ∀ q, 166 ≤ q → q ≤ 171 → m' q (200 * k + i) = m q (200 * k + i)) (hc : ∀ q j, q = 163 ∨ q = 164 → 0 ≤ j → j < cd → m' q (500 * k + j) = m q (500 * k + j)) : ltI k cd m' i ∧ (∀ x, litB (vw m' k 0 0) x i = litB (vw m k 0 0) x i) ∧ vw m' k 0 0 29 i = vw m k 0 0 29 i := by
  have a := vwL (m := m) (k := k) i0 i1
  have b := vwL (m := m') (k := k) i0 i1
  rw [hl 166 (by decide) (by decide), hl 167 (by decide) (by decide), hl 168 (by decide) (by decide), hl 169 (by decide) (by decide), hl 170 (by decide) (by decide), hl 171 (by decide) (by decide)] at b
  have e24 := b.1.trans a.1.symm
  have e25 := b.2.1.trans a.2.1.symm
  have e26 := b.2.2.1.trans a.2.2.1.symm
  have e27 := b.2.2.2.1.trans a.2.2.2.1.symm
  have e28 := b.2.2.2.2.1.trans a.2.2.2.2.1.symm
  have e29 := b.2.2.2.2.2.trans a.2.2.2.2.2.symm
  obtain ⟨⟨l1, l2, l3, l4⟩, l5⟩ := h
  have cd : ∀ j, 0 ≤ j → j < cd → vw m k 0 0 22 j = vw m' k 0 0 22 j ∧ vw m k 0 0 23 j = vw m' k 0 0 23 j := fun j j0 j1 => by
    rw [vw22 j0 (by omega), vw22 j0 (by omega), vw23 j0 (by omega), vw23 j0 (by omega), hc 163 j (by omega) j0 j1, hc 164 j (by omega) j0 j1]
    exact ⟨rfl, rfl⟩
  have A := l2.1
  have A2 := l2.2.1
  have B2 := l3.2.1
  have c1 : ∀ j, vw m k 0 0 26 i ≤ j → j < vw m k 0 0 27 i → vw m k 0 0 22 j = vw m' k 0 0 22 j ∧ vw m k 0 0 23 j = vw m' k 0 0 23 j := fun j j0 j1 => cd j (by omega) (by omega)
  have c2 : ∀ j, vw m k 0 0 27 i ≤ j → j < vw m k 0 0 28 i → vw m k 0 0 22 j = vw m' k 0 0 22 j ∧ vw m k 0 0 23 j = vw m' k 0 0 23 j := fun j j0 j1 => cd j (by omega) (by omega)
  have r1 : ∀ x, rEv (vw m' k 0 0 22) (vw m' k 0 0 23) x (vw m k 0 0 26 i) (vw m k 0 0 27 i - vw m k 0 0 26 i).toNat = rEv (vw m k 0 0 22) (vw m k 0 0 23) x (vw m k 0 0 26 i) (vw m k 0 0 27 i - vw m k 0 0 26 i).toNat := fun x => (rEv_cg _ (fun j j0 j1 => c1 j j0 (by omega))).symm
  have r2 : ∀ x, rEv (vw m' k 0 0 22) (vw m' k 0 0 23) x (vw m k 0 0 27 i) (vw m k 0 0 28 i - vw m k 0 0 27 i).toNat = rEv (vw m k 0 0 22) (vw m k 0 0 23) x (vw m k 0 0 27 i) (vw m k 0 0 28 i - vw m k 0 0 27 i).toNat := fun x => (rEv_cg _ (fun j j0 j1 => c2 j j0 (by omega))).symm
  refine ⟨⟨⟨by rw [e24]; exact l1, by rw [e26, e27]; exact rOk_cg l2 c1, by rw [e27, e28]; exact rOk_cg l3 c2, fun x => by rw [e26, e27, e28, r1, r2]; exact l4 x⟩, by rw [e28]; exact l5⟩, fun x => ?_, e29⟩
  unfold litB rVal
  rw [e24, e25, e26, e27, e28, r1, r2]
