/-! an expr in the reference, in step with the machine -/
theorem stl_app1 {sg : Int} {L : List Int} : ∀ {U : List Int} {V : jM}, ((stl sg U V).1 ≠ [] ∨ stl sg L (stl sg U V).2 = (L, (stl sg U V).2)) → stl sg (U ++ L) V = ((stl sg U V).1 ++ L, (stl sg U V).2) := by
  intro U
  induction U with
  | nil =>
    intro V h
    rcases h with h | h
    · exact absurd rfl h
    · exact h
  | cons k r ih =>
    intro V h
    simp only [stl, List.cons_append] at h ⊢
    split
    · rename_i c
      rw [if_pos c] at h
      exact ih h
    · rfl
theorem stl_app2 {sg : Int} {L : List Int} : ∀ {U : List Int} {V : jM}, (stl sg U V).1 = [] → stl sg (U ++ L) V = stl sg L (stl sg U V).2 := by
  intro U
  induction U with
  | nil => intro V _; rfl
  | cons k r ih =>
    intro V h
    simp only [stl, List.cons_append] at h ⊢
    split
    · rename_i c
      rw [if_pos c] at h
      exact ih h
    · rename_i c
      rw [if_neg c] at h
      exact absurd h (by simp)
theorem stl_low {sg : Int} {L : List Int} {V : jM} (h : hdS L < sg) : stl sg L V = (L, V) := by
  cases L with
  | nil => rfl
  | cons k r =>
    have h : stg k < sg := h
    simp only [stl]
    rw [if_neg (by omega)]
theorem stl_mem {sg : Int} : ∀ {U : List Int} {V : jM}, ∀ k ∈ (stl sg U V).1, k ∈ U := by
  intro U
  induction U with
  | nil => intro V k hk; exact hk
  | cons k r ih =>
    intro V x hx
    simp only [stl] at hx
    split at hx
    · exact List.mem_cons_of_mem _ (ih x hx)
    · exact hx
theorem stl_bC {sg : Int} (h1 : 1 ≤ sg) : ∀ {U : List Int} {V : jM}, bC (stl sg U V).1 = bC U := by
  intro U
  induction U with
  | nil => intro V; rfl
  | cons k r ih =>
    intro V
    simp only [stl]
    split
    · rename_i c
      rw [ih]
      simp only [bC]
      rw [if_neg]
      · omega
      · intro e
        rw [e] at c
        have : stg 32 = 0 := rfl
        omega
    · rfl
/-- no bracket waits: all goes -/
theorem stl_all {sg : Int} (h1 : sg ≤ 5) : ∀ {U : List Int} {V : jM}, uOk U → bC U = 0 → (stl sg U V).1 = [] ∧ ∀ sg', sg' ≤ 5 → stl sg' U V = stl sg U V := by
  intro U
  induction U with
  | nil => intro V _ _; exact ⟨rfl, fun _ _ => rfl⟩
  | cons k r ih =>
    intro V hO hB
    have kb := hO k (by simp)
    have nn := bC_nn r
    simp only [bC] at hB
    have k3 : k = 25 ∨ k = 26 ∨ k = 27 := by
      rcases kb with w | w | w | w
      · omega
      · omega
      · omega
      · rw [if_pos w] at hB; omega
    have sk : 5 ≤ stg k := by rcases k3 with rfl | rfl | rfl <;> decide
    have x := ih (V := cdF (-k - 1) V) (fun y hy => hO y (by simp [hy])) (by rw [if_neg (by omega)] at hB; omega)
    simp only [stl]
    rw [if_pos (by omega)]
    refine ⟨x.1, fun sg' h' => ?_⟩
    rw [if_pos (by omega)]
    exact x.2 sg' h'
/-- a bracket waits: it stays on top -/
theorem stl_br : ∀ {U : List Int} {V : jM}, uOk U → 0 < bC U → ∃ r, (stl 1 U V).1 = 32 :: r ∧ uOk r := by
  intro U
  induction U with
  | nil => intro V _ h; exact absurd h (by decide)
  | cons k r ih =>
    intro V hO hB
    have kb := hO k (by simp)
    simp only [stl]
    by_cases e : k = 32
    · subst e
      rw [if_neg (by decide)]
      exact ⟨r, rfl, fun y hy => hO y (by simp [hy])⟩
    · simp only [bC] at hB
      rw [if_neg e] at hB
      have sk : 1 ≤ stg k := by rcases kb with rfl | rfl | rfl | w; decide; decide; decide; exact absurd w e
      rw [if_pos sk]
      exact ih (fun y hy => hO y (by simp [hy])) (by omega)
theorem nbW_app : ∀ {U L : List Int}, nbW (U ++ L) = nbW U + nbW L := by
  intro U
  induction U with
  | nil => intro L; simp [nbW]
  | cons k r ih => intro L; simp only [List.cons_append, nbW]; rw [ih]; omega
/-- what an expr leaves alone of the class's data -/
def exV (Va V : jM) : Prop := Va 0 16 ≤ V 0 16 ∧ (∀ j, j ≠ 16 → j ≠ 20 → j ≠ 21 → j ≠ 23 → V 0 j = Va 0 j) ∧ (∀ p, p ≠ 0 → p ≠ 32 → V p = Va p) ∧ ∀ i, i < Va 0 16 → V 32 i = Va 32 i
theorem exV_rf {V : jM} : exV V V := ⟨Int.le_refl _, fun _ _ _ _ _ => rfl, fun _ _ _ => rfl, fun _ _ => rfl⟩
theorem exV_tr {V V1 V2 : jM} (h : exV V V1) (h2 : exV V1 V2) : exV V V2 := ⟨Int.le_trans h.1 h2.1, fun j a b c d => (h2.2.1 j a b c d).trans (h.2.1 j a b c d), fun p a b => (h2.2.2.1 p a b).trans (h.2.2.1 p a b), fun i hi => (h2.2.2.2 i (by have := h.1; omega)).trans (h.2.2.2 i hi)⟩
theorem exV_j {V V1 : jM} {j x : Int} (h : exV V V1) (hj : j = 20 ∨ j = 21 ∨ j = 23) : exV V (jup V1 0 j x) := ⟨by rw [jup_j (by omega)]; exact h.1, fun i a b c d => by rw [jup_j (by omega)]; exact h.2.1 i a b c d, fun p a b => by rw [jup_ne a]; exact h.2.2.1 p a b, fun i hi => by rw [jup_ne (by decide)]; exact h.2.2.2 i hi⟩
theorem exV_c {V V1 : jM} {c : Int} (h : exV V V1) : exV V (cdF c V1) := by
  unfold cdF
  refine ⟨by rw [jup_s]; have := h.1; omega, fun i a b c d => by rw [jup_j a, jup_ne (by decide)]; exact h.2.1 i a b c d, fun p a b => by rw [jup_ne a, jup_ne b]; exact h.2.2.1 p a b, fun i hi => ?_⟩
  rw [jup_ne (by decide), jup_j (by have := h.1; omega)]
  exact h.2.2.2 i hi
theorem exV_s {V V1 : jM} {sg : Int} {U : List Int} (h : exV V V1) : exV V (stl sg U V1).2 := by
  have sc := stl_cd (s := sg) (W := U) (V := V1)
  exact exV_tr h ⟨sc.2.1, fun j a _ _ _ => sc.2.2.1 j a, fun p a b => sc.2.2.2.1 p a b, sc.2.2.2.2⟩
def rdE (k c0 : Int) (m m' : jM) : Prop := ∀ q i, okK k c0 q i → okH q i → m' q i = m q i
theorem rdE_rf {k c0 : Int} {m : jM} : rdE k c0 m m := fun _ _ _ _ => rfl
theorem rdE_tr {k c0 : Int} {m m1 m2 : jM} (h : rdE k c0 m m1) (h2 : rdE k c0 m1 m2) : rdE k c0 m m2 := fun q i a b => (h2 q i a b).trans (h q i a b)
theorem rdE_K {k c0 : Int} {m m' : jM} (h : rdK k c0 m m') : rdE k c0 m m' := fun q i a _ => h q i a
theorem rdE_H {k c0 : Int} {m m' : jM} (h : rdH m m') : rdE k c0 m m' := fun q i _ b => h q i b
theorem xlp_d {K S W : Int → Int} {f : Nat} {X : XR} (h : X.1.2.1 = 0) (h2 : X.2.2 0 20 ≠ 0) : xlp K S W (f + 1) X = xlp K S W f (opd K S W X) := by
  simp only [xlp]; rw [if_neg (fun w => w h), if_neg h2]
theorem xlp_r {K S W : Int → Int} {f : Nat} {X : XR} (h : X.1.2.1 = 0) (h2 : X.2.2 0 20 = 0) (h3 : K X.1.1 ≠ 24) : xlp K S W (f + 1) X = xlp K S W f (opr K S X) := by
  simp only [xlp]; rw [if_neg (fun w => w h), if_pos h2, if_neg h3]
theorem xlp_e {K S W : Int → Int} {f : Nat} {X : XR} (h : X.1.2.1 = 0) (h2 : X.2.2 0 20 = 0) (h3 : K X.1.1 = 24) : xlp K S W (f + 1) X = opr K S X := by
  simp only [xlp]; rw [if_neg (fun w => w h), if_pos h2, if_pos h3]
theorem exI_V {k st ea due due' : Int} {s : (Int → Int) → List Int} {U U' : List Int} {V V' m : jM} (h : exI k st ea s due U V m) (h16 : V' 0 16 = V 0 16) (h32 : V' 32 = V 32) (hd : 0 ≤ due' ∧ due' ≤ 1) (hn : nbW U' + (1 - due') = nbW U + (1 - due)) (hb : ∀ x, nbW U' + ((s x).length : Int) ≤ 17) : exI k st ea s due' U' V' m := by
  obtain ⟨h1, h2, h3, h4, h5, h6, h7⟩ := h
  refine ⟨h1, by rw [h16]; exact h2, by rw [h16]; exact h3, h4, by rw [h16, h32]; exact h5, hd, fun x => ?_⟩
  have e : cS V' x st = cS V x st := by unfold cS; rw [h16, h32]
  rw [e, hn]
  exact ⟨(h7 x).1, (h7 x).2.1, hb x⟩
theorem wno_var : ∀ i : Fin 22, ((i : Nat) < 17 → wno ((i : Nat) : Int) ≤ 16) ∧ (17 ≤ (i : Nat) → wno ((i : Nat) : Int) = ((i : Nat) : Int)) := by decide +kernel
theorem wno_v {k : Int} (k0 : 0 ≤ k) (k1 : k < 22) : (k < 17 → wno k ≤ 16) ∧ (17 ≤ k → wno k = k) := by
  have h := wno_var ⟨k.toNat, by omega⟩
  simp only [Int.toNat_of_nonneg k0] at h
  exact ⟨fun a => h.1 (by omega), fun a => h.2 (by omega)⟩
/-- what stands at the head of an expr's loop -/
def exS (K S W : Int → Int) (n k c0 c st ea : Int) (s : (Int → Int) → List Int) (L : List Int) (m0 V0 : jM) (P : Int × Int × Int) (U : List Int) (V m : jM) : Prop := rdE k c0 m0 m ∧ rX K S W n k m P V0 c m ∧ exI k st ea s (V 0 20) U V m ∧ wtR U m ∧ uOk U ∧ V 0 23 = bC U ∧ XI n (P, U ++ L, V) ∧ m 139 67 = ea + 500 * k
theorem c_exprLoop {K S W : Int → Int} {n k c c0 st ea : Int} {s : (Int → Int) → List Int} {L : List Int} {m0 V0 Va : jM} {Q : Int → jM → Prop} {F : Nat} {X0 : XR} {Pa : Int} (hv : tV K W n) (hc0 : c0 ≤ ea) (hL : hdS L ≤ 4) (hs : ∀ x, ((s x).length : Int) = nbW L)
    (hQ0 : ∀ m', rdE k c0 m0 m' → rTk K S W n m' → (xlp K S W F X0).1.2.1 ≠ 0 → rPs (xlp K S W F X0).1 m' → Q 0 m')
    (hQ1 : ∀ (f' : Nat) (P' : Int × Int × Int) (U' : List Int) (V' V1 m' : jM), xlp K S W F X0 = xlp K S W f' (P', U' ++ L, V') → 401 - P'.1 ≤ f' → Pa ≤ P'.1 → P'.2.1 = 0 → XI n (P', U' ++ L, V') → V' 0 20 = 0 → V' 0 23 = 0 → K P'.1 ≠ 25 → K P'.1 ≠ 26 → K P'.1 ≠ 27 → (∀ sg, 1 ≤ sg → sg ≤ 5 → stl sg (U' ++ L) V' = stl sg L V1) → exV Va V' → exV V' V1 ∧ (∀ j, j ≠ 16 → V1 0 j = V' 0 j) → rdE k c0 m0 m' → rX K S W n k m' P' V0 c m' → exI k st ea s 0 [] V1 m' → m' 139 67 = ea + 500 * k → Q 1 m') :
    ∀ (f : Nat) (P : Int × Int × Int) (U : List Int) (V m : jM), xlp K S W F X0 = xlp K S W f (P, U ++ L, V) → 401 - P.1 ≤ f → Pa ≤ P.1 → P.2.1 = 0 → (K P.1 ≠ 16 ∨ V 0 21 = 0) → exV Va V → exS K S W n k c0 c st ea s L m0 V0 P U V m → GL iX11_expr m 24 [(2, 139), (0, V 0 23), (0, V 0 20), (0, 1), (9, 0)] [] Q := by
  intro f
  induction f with
  | zero =>
    intro P U V m _ hf _ _ _ _ hS
    have := hS.2.1.2.2.1.1
    omega
  | succ f ih =>
    intro P U V m hx hf hpa hz h16 hVa hS
    obtain ⟨hE, hX, hI, hW, hO, hB, hXI, h67⟩ := id hS
    obtain ⟨x1, x2, x3, x4, x5, x6, x7⟩ := id hXI
    simp only at x1 x2 x3 x4 x5 x6 x7
    have p0 := hX.2.2.1.1
    have q0 := hX.2.2.1.2.1
    have tk := hX.2.1.1 P.1 p0.1 x5
    have kr := hX.2.1.2.1.1 P.1 p0.1 x5
    have n4 := hX.2.1.2.2.2
    have so := tk_sort tk kr.1 kr.2
    have du := hI.2.2.2.2.2.1
    have b0 := bC_nn U
    have i2 := hI.2.1
    have i3 := hI.2.2.1
    have ll : (U ++ L).length = U.length + L.length := List.length_append
    rw [ll] at x3
    have k67 : ∀ {m1 m2}, rdH m1 m2 → m2 139 67 = m1 139 67 := fun h => h 139 67 (by unfold okH; omega)
    have kI : ∀ {m1 m2 s' due' U' V'}, rdH m1 m2 → exI k st ea s' due' U' V' m1 → exI k st ea s' due' U' V' m2 := fun h e => exI_cg e (fun q hq => rdH_row h (by omega) (by omega) (by omega)) (h 139 13 (by unfold okH; omega))
    have kW : ∀ {m1 m2 U'}, rdH m1 m2 → wtR U' m1 → wtR U' m2 := fun h e => by
      unfold wtR at *
      rw [h 139 65 (by unfold okH; omega), rdH_row h (by decide) (by decide) (by decide)]
      exact e
    refine sX11_expr_24 ⟨fun w => absurd w (by decide), fun _ => ⟨fun zd => ?_, fun zd => ?_⟩⟩
    · -- behind an operand
      have ng := x7 zd
      rw [zd] at hI
      have hbl : V 0 16 + (U.length : Int) ≤ 400 := by omega
      -- an operator of an expr: what is reduced goes, it waits, the token is passed
      have oper : ∀ kk sg lst, (kk = 25 ∨ kk = 26 ∨ kk = 27) → K P.1 = kk → stg kk = sg → (∀ k', k' = 25 ∨ k' = 26 ∨ k' = 27 ∨ k' = 32 → (rkR (rop k') < lst ↔ stg k' < sg)) → 5 ≤ sg → ∀ G : jM → Prop, (∀ m2, rX K S W n k m2 P V0 c m2 → (∀ Q', (∀ m5, (∀ m6, rX K S W n k m5 (stq K S kk P) V0 c m6 → (stq K S kk P).2.1 = 0 → GL iX11_expr m6 24 [(2, 139), (0, V 0 23), (0, 1), (0, 1), (9, 0)] [] Q) → (∀ m6, rX K S W n k m5 (stq K S kk P) V0 c m6 → (stq K S kk P).2.1 ≠ 0 → Q 0 m6) → rX K S W n k m5 P V0 c m5 → Q' 0 m5) → ML iX11_await [(2, 139), (0, rop kk)] m2 Q') → G m2) → ML iX11_reduce [(2, 139), (0, lst), (0, 0)] m (fun _ m2 => G m2) := by
        intro kk sg lst hkk hk hsg hls h5 G hG
        refine sX11_reduce (c_reduceR hls (by omega) hc0 hI hW hO hbl (fun m2 f2 E2 W2 => hG m2 (rX_K hX f2) (fun Q' hQ' => ?_)))
        have sc := stl_cd (s := sg) (W := U) (V := V)
        have len2 : ((stl sg U V).1.length : Int) < 500 := by have := sc.1; omega
        have may : mayF V kk := by unfold mayF; omega
        have app : stl sg (U ++ L) V = ((stl sg U V).1 ++ L, (stl sg U V).2) := stl_app1 (Or.inr (stl_low (by omega)))
        have eo : opr K S (P, U ++ L, V) = (stq K S kk P, (kk :: (stl sg U V).1) ++ L, jup (stl sg U V).2 0 20 1) := by
          unfold opr
          simp only
          rw [if_neg (by omega), hk, if_pos may, if_neg (by omega), hsg, app]
          unfold opF
          rw [if_neg (by omega), if_neg (by omega)]
          rfl
        have hx2 : xlp K S W F X0 = xlp K S W f (stq K S kk P, (kk :: (stl sg U V).1) ++ L, jup (stl sg U V).2 0 20 1) := by
          rw [hx, xlp_r hz zd (by show K P.1 ≠ 24; omega), eo]
        refine c_awaitR (k := k) (c0 := c0) (kk := kk) W2 len2 (fun m5 f5 r5 W5 => hQ' m5 ?_ ?_ (rX_K (rX_K hX f2) f5))
        · intro m6 x6' z6
          have XI2 := (XI_opr hv hXI zd (by rw [eo]; exact z6)).1
          rw [eo] at XI2
          have bd := nbW_bd XI2.1
          have hd6 := XI2.2.2.2.1
          simp only at bd hd6
          have e23 : (jup (stl sg U V).2 0 20 1) 0 23 = V 0 23 := by rw [jup_j (by decide)]; exact sc.2.2.1 23 (by decide)
          have e20 : (jup (stl sg U V).2 0 20 1) 0 20 = 1 := jup_s
          have e21 : (jup (stl sg U V).2 0 20 1) 0 21 = 0 := by rw [jup_j (by decide), sc.2.2.1 21 (by decide)]; exact ng
          rw [e23] at bd hd6
          rw [nbW_app] at bd
          have E6 : exI k st ea s 1 (kk :: (stl sg U V).1) (jup (stl sg U V).2 0 20 1) m6 := by
            refine exI_V (kI x6'.1 (exI_cg E2 (fun q hq => r5 q (by omega) (by omega)) (f5 139 13 (by unfold okK; omega)))) (jup_j (by decide)) (jup_ne (by decide)) (by decide) ?_ (fun x => by rw [hs x]; omega)
            simp only [nbW]
            rw [if_neg (by omega)]
            omega
          have g := ih (stq K S kk P) (kk :: (stl sg U V).1) (jup (stl sg U V).2 0 20 1) m6 hx2 (by rw [stq_1 z6]; omega) (by rw [stq_1 z6]; omega) z6 (Or.inr e21) (exV_j (exV_s hVa) (Or.inl rfl)) ⟨rdE_tr (rdE_tr hE (rdE_tr (rdE_K f2) (rdE_K f5))) (rdE_H x6'.1), rX_base x6', by rw [e20]; exact E6, kW x6'.1 W5, ?_, ?_, XI2, by rw [k67 x6'.1, f5 139 67 (by unfold okK; omega), f2 139 67 (by unfold okK; omega)]; exact h67⟩
          · rw [e23, e20] at g
            exact g
          · intro y hy
            simp only [List.mem_cons] at hy
            rcases hy with rfl | hy
            · omega
            · exact hO y (stl_mem y hy)
          · rw [e23, hB]
            simp only [bC]
            rw [if_neg (by omega), stl_bC (by omega)]
            omega
        · intro m6 x6' z6
          have e : xlp K S W F X0 = (stq K S kk P, (kk :: (stl sg U V).1) ++ L, jup (stl sg U V).2 0 20 1) := by rw [hx2]; exact xlp_f z6
          refine hQ0 m6 (rdE_tr (rdE_tr hE (rdE_tr (rdE_K f2) (rdE_K f5))) (rdE_H x6'.1)) x6'.2.1 (by rw [e]; exact z6) (by rw [e]; exact x6'.2.2.1)
      refine c_isSignR (kk := 27) hX x5 (by decide) (by decide) (by decide) (fun k27 => ⟨fun w => absurd w (by decide), fun _ => ?_⟩) (fun k27 => ⟨fun _ => ?_, fun w => absurd rfl w⟩)
      · refine oper 27 6 2 (by omega) k27 (by decide) (fun k' hk' => by rcases hk' with rfl | rfl | rfl | rfl <;> decide) (by decide) _ (fun m2 hx2 aw => aw _ (fun m5 g1 g0 hx5 => ?_))
        exact c_passR (kk := 27) hx5 x5 hz k27 (fun m6 x z => ⟨fun _ => g1 m6 x z, fun w => absurd (by decide) w⟩) (fun m6 x z => ⟨fun w => absurd rfl w, fun _ => g0 m6 x z⟩)
      · have at227 : K P.1 = 25 ∨ K P.1 = 26 → GL iX11_expr m 227 [(2, 139), (0, V 0 23), (9, 0), (0, 1), (9, 0)] [] Q := by
          intro h56
          refine sX11_expr_227 ?_
          rcases h56 with h5 | h6
          · refine oper 25 5 1 (by omega) h5 (by decide) (fun k' hk' => by rcases hk' with rfl | rfl | rfl | rfl <;> decide) (by decide) _ (fun m2 hx2 aw => ?_)
            refine c_isSignR (kk := 25) hx2 x5 (by decide) (by decide) (by decide) (fun _ => ⟨fun w => absurd w (by decide), fun _ => aw _ (fun m5 g1 g0 hx5 => ?_)⟩) (fun w => absurd h5 w)
            exact c_passR (kk := 25) hx5 x5 hz h5 (fun m6 x z => ⟨fun _ => g1 m6 x z, fun w => absurd (by decide) w⟩) (fun m6 x z => ⟨fun w => absurd rfl w, fun _ => g0 m6 x z⟩)
          · refine oper 26 5 1 (by omega) h6 (by decide) (fun k' hk' => by rcases hk' with rfl | rfl | rfl | rfl <;> decide) (by decide) _ (fun m2 hx2 aw => ?_)
            refine c_isSignR (kk := 25) hx2 x5 (by decide) (by decide) (by decide) (fun w => absurd w (by omega)) (fun _ => ⟨fun _ => aw _ (fun m5 g1 g0 hx5 => ?_), fun w => absurd rfl w⟩)
            exact c_passR (kk := 26) hx5 x5 hz h6 (fun m6 x z => ⟨fun _ => g1 m6 x z, fun w => absurd (by decide) w⟩) (fun m6 x z => ⟨fun w => absurd rfl w, fun _ => g0 m6 x z⟩)
        refine c_isSignR (kk := 25) hX x5 (by decide) (by decide) (by decide) (fun k25 => ⟨fun _ => at227 (Or.inl k25), fun w => absurd (by decide) w⟩) (fun k25 => ⟨fun w => absurd rfl w, fun _ => ?_⟩)
        refine c_isSignR (kk := 26) hX x5 (by decide) (by decide) (by decide) (fun k26 => ⟨fun w => absurd w (by decide), fun _ => at227 (Or.inr k26)⟩) (fun k26 => ⟨fun _ => ⟨fun zx => ?_, fun zx => ?_⟩, fun w => absurd rfl w⟩)
        · -- the expr's end
          have d0 : V 0 23 = 0 := by omega
          rw [d0, zd]
          have al := stl_all (sg := 1) (by decide) (V := V) hO (by omega)
          refine sX11_expr_24 ⟨fun _ => ?_, fun w => absurd rfl w⟩
          refine sX11_reduce (c_reduceR (sg := 1) (by intro k' hk'; rcases hk' with rfl | rfl | rfl | rfl <;> decide) (by decide) hc0 hI hW hO hbl (fun m2 f2 E2 W2 => ?_))
          rw [al.1] at E2
          refine hQ1 (f + 1) P U V (stl 1 U V).2 m2 hx hf hpa hz hXI zd d0 k25 k26 k27 (fun sg s1 s5 => ?_) hVa ⟨exV_s exV_rf, fun j hj => (stl_cd (s := 1) (W := U) (V := V)).2.2.1 j hj⟩ (rdE_tr hE (rdE_K f2)) (rX_K hX f2) E2 (by rw [f2 139 67 (by unfold okK; omega)]; exact h67)
          have e := al.2 sg s5
          rw [← e]
          exact stl_app2 (by rw [e]; exact al.1)
        · -- within brackets
          refine c_isSignR (kk := 33) hX x5 (by decide) (by decide) (by decide) (fun k33 => ⟨fun _ => ?_, fun w => absurd (by decide) w⟩) (fun k33 => ⟨fun w => absurd rfl w, fun _ => ?_⟩)
          · obtain ⟨r, er, hr⟩ := stl_br (V := V) hO (by omega)
            have sc := stl_cd (s := 1) (W := U) (V := V)
            have app : stl 1 (U ++ L) V = ((stl 1 U V).1 ++ L, (stl 1 U V).2) := stl_app1 (Or.inl (by rw [er]; simp))
            have eo : opr K S (P, U ++ L, V) = (stq K S 33 P, r ++ L, jup (stl 1 U V).2 0 23 (V 0 23 - 1)) := by
              unfold opr
              simp only
              rw [if_pos ⟨k33, by omega⟩, app, er]
              rfl
            have hx2 : xlp K S W F X0 = xlp K S W f (stq K S 33 P, r ++ L, jup (stl 1 U V).2 0 23 (V 0 23 - 1)) := by
              rw [hx, xlp_r hz zd (by show K P.1 ≠ 24; omega), eo]
            refine c_passR (kk := 33) hX x5 hz k33 (fun m1 y1 z1 => ⟨fun _ => ?_, fun w => absurd (by decide) w⟩) (fun m1 y1 z1 => ⟨fun w => absurd rfl w, fun _ => ?_⟩)
            · refine sX11_reduce (c_reduceR (sg := 1) (by intro k' hk'; rcases hk' with rfl | rfl | rfl | rfl <;> decide) (by decide) hc0 (kI y1.1 hI) (kW y1.1 hW) hO hbl (fun m2 f2 E2 W2 => ?_))
              rw [er] at E2 W2
              have len2 : m2 139 65 = (r.length : Int) + 1 := by rw [W2.1]; simp
              rw [len2, jw_id (x := (r.length : Int) + 1 - 1) (by omega) (by have := sc.1; rw [er] at this; simp only [List.length_cons] at this; omega), show (r.length : Int) + 1 - 1 = (r.length : Int) by omega, jw_id (x := V 0 23 + -1) (by omega) (by omega)]
              have XI2 := (XI_opr hv hXI zd (by rw [eo]; exact z1)).1
              rw [eo] at XI2
              have e23 : (jup (stl 1 U V).2 0 23 (V 0 23 - 1)) 0 23 = V 0 23 - 1 := jup_s
              have e20 : (jup (stl 1 U V).2 0 23 (V 0 23 - 1)) 0 20 = 0 := by rw [jup_j (by decide), sc.2.2.1 20 (by decide)]; exact zd
              have e21 : (jup (stl 1 U V).2 0 23 (V 0 23 - 1)) 0 21 = 0 := by rw [jup_j (by decide), sc.2.2.1 21 (by decide)]; exact ng
              have f3 : rdK k c0 m2 (jup m2 139 65 (r.length : Int)) := rdK_up rdK_rf (by unfold okK; omega)
              have E3 : exI k st ea s 0 r (jup (stl 1 U V).2 0 23 (V 0 23 - 1)) (jup m2 139 65 (r.length : Int)) := by
                refine exI_V (exI_cg E2 (fun q hq => jup_ne (by omega)) (jup_j (by decide))) (jup_j (by decide)) (jup_ne (by decide)) (by decide) ?_ (fun x => ?_)
                · rw [nbW32]
                · have := (E2.2.2.2.2.2.2 x).2.2
                  rw [nbW32] at this
                  exact this
              have g := ih (stq K S 33 P) r (jup (stl 1 U V).2 0 23 (V 0 23 - 1)) (jup m2 139 65 (r.length : Int)) hx2 (by rw [stq_1 z1]; omega) (by rw [stq_1 z1]; omega) z1 (Or.inr e21) (exV_j (exV_s hVa) (Or.inr (Or.inr rfl))) ⟨rdE_tr (rdE_tr hE (rdE_H y1.1)) (rdE_tr (rdE_K f2) (rdE_K f3)), rX_K (rX_K (rX_base y1) f2) f3, by rw [e20]; exact E3, ⟨jup_s, by rw [jup_ne (by decide)]; exact W2.2.2⟩, hr, ?_, XI2, by rw [f3 139 67 (by unfold okK; omega), f2 139 67 (by unfold okK; omega), k67 y1.1]; exact h67⟩
              · rw [e23, e20] at g
                rw [show V 0 23 + -1 = V 0 23 - 1 by omega, zd]
                exact g
              · rw [e23, hB, ← stl_bC (sg := 1) (by decide) (V := V), er]
                rw [bC32]
                omega
            · have e : xlp K S W F X0 = (stq K S 33 P, r ++ L, jup (stl 1 U V).2 0 23 (V 0 23 - 1)) := by rw [hx2]; exact xlp_f z1
              refine hQ0 m1 (rdE_tr hE (rdE_H y1.1)) y1.2.1 (by rw [e]; exact z1) (by rw [e]; exact y1.2.2.1)
          · have ne : (flF S 1 P).2.1 ≠ 0 := flF_ne (by decide)
            have eo : opr K S (P, U ++ L, V) = (flF S 1 P, U ++ L, V) := by
              unfold opr
              simp only
              rw [if_neg (by omega), if_neg (by unfold mayF; omega)]
            have e : (xlp K S W F X0).1 = flF S 1 P := by
              rw [hx]
              by_cases c24 : K P.1 = 24
              · rw [xlp_e hz zd c24, eo]
              · rw [xlp_r hz zd c24, eo, xlp_f (by exact ne)]
            refine c_wrongR hX x5 hz (by decide) (fun m1 y1 => ⟨Or.inl rfl, hQ0 m1 (rdE_tr hE (rdE_H y1.1)) y1.2.1 (by rw [e]; exact ne) (by rw [e]; exact y1.2.2.1)⟩)
    · -- an operand is due
      have d1 : V 0 20 = 1 := by omega
      rw [d1] at hI
      have hxo := hx.trans (xlp_d (f := f) (X := (P, U ++ L, V)) hz zd)
      have c16 : ¬ (K P.1 = 16 ∧ V 0 21 ≠ 0) := by omega
      have mono : ∀ m1, rX K S W n k m (opd K S W (P, U ++ L, V)).1 V0 c m1 → (opd K S W (P, U ++ L, V)).1.2.1 ≠ 0 → Q 0 m1 := by
        intro m1 y1 z1
        have e : xlp K S W F X0 = opd K S W (P, U ++ L, V) := by rw [hxo]; exact xlp_f z1
        exact hQ0 m1 (rdE_tr hE (rdE_H y1.1)) y1.2.1 (by rw [e]; exact z1) (by rw [e]; exact y1.2.2.1)
      refine c_isSignR (kk := 32) hX x5 (by decide) (by decide) (by decide) (fun k32 => ⟨fun w => absurd w (by decide), fun _ => ⟨fun z6 => ?_, fun z6 => ?_⟩⟩) (fun k32 => ⟨fun _ => ?_, fun w => absurd rfl w⟩)
      · have rm : rmF S (V 0 23) 6 P = P := by unfold rmF; rw [if_pos (by omega)]
        have eo : opd K S W (P, U ++ L, V) = (stq K S 32 P, (32 :: U) ++ L, jup (jup V 0 23 (V 0 23 + 1)) 0 21 0) := by
          unfold opd
          simp only
          rw [if_neg c16, if_pos k32, rm]
          rfl
        rw [eo] at hxo mono
        refine c_passR (kk := 32) hX x5 hz k32 (fun m1 y1 z1 => ⟨fun _ => ?_, fun w => absurd (by decide) w⟩) (fun m1 y1 z1 => ⟨fun w => absurd rfl w, fun _ => mono m1 y1 z1⟩)
        have XI2 := (XI_opd hv hXI (by rw [eo]; exact z1)).1
        rw [eo] at XI2
        refine c_awaitR (k := k) (c0 := c0) (kk := 32) (kW y1.1 hW) (by omega) (fun m5 f5 r5 W5 => ?_)
        rw [jw_id (x := V 0 23 + 1) (by omega) (by omega)]
        have e23 : (jup (jup V 0 23 (V 0 23 + 1)) 0 21 0) 0 23 = V 0 23 + 1 := by rw [jup_j (by decide), jup_s]
        have e20 : (jup (jup V 0 23 (V 0 23 + 1)) 0 21 0) 0 20 = 1 := by rw [jup_j (by decide), jup_j (by decide)]; exact d1
        have E5 : exI k st ea s 1 (32 :: U) (jup (jup V 0 23 (V 0 23 + 1)) 0 21 0) m5 := by
          refine exI_V (exI_cg (kI y1.1 hI) (fun q hq => r5 q (by omega) (by omega)) (f5 139 13 (by unfold okK; omega))) (by rw [jup_j (by decide), jup_j (by decide)]) (by rw [jup_ne (by decide), jup_ne (by decide)]) (by decide) ?_ (fun x => ?_)
          · rw [nbW32]
          · have := (hI.2.2.2.2.2.2 x).2.2
            rw [nbW32]
            exact this
        have g := ih (stq K S 32 P) (32 :: U) (jup (jup V 0 23 (V 0 23 + 1)) 0 21 0) m5 hxo (by rw [stq_1 z1]; omega) (by rw [stq_1 z1]; omega) z1 (Or.inr jup_s) (exV_j (exV_j hVa (Or.inr (Or.inr rfl))) (Or.inr (Or.inl rfl))) ⟨rdE_tr (rdE_tr hE (rdE_H y1.1)) (rdE_K f5), rX_K (rX_base y1) f5, by rw [e20]; exact E5, W5, ?_, ?_, XI2, by rw [f5 139 67 (by unfold okK; omega), k67 y1.1]; exact h67⟩
        · rw [e23, e20] at g
          rw [d1]
          exact g
        · intro y hy
          simp only [List.mem_cons] at hy
          rcases hy with rfl | hy
          · omega
          · exact hO y hy
        · rw [e23, hB]
          rw [bC32]
          omega
      · have rm : rmF S (V 0 23) 6 P = flF S 2 P := by unfold rmF; rw [if_neg (by omega)]
        have ne : (flF S 2 P).2.1 ≠ 0 := flF_ne (by decide)
        have eo : (opd K S W (P, U ++ L, V)).1 = flF S 2 P := by
          unfold opd
          simp only
          rw [if_neg c16, if_pos k32, rm, stq_f ne]
        rw [eo] at mono
        exact c_wrongR hX x5 hz (by decide) (fun m1 y1 => ⟨Or.inl rfl, mono m1 y1 ne⟩)
      · -- a value
        have val : ∀ a b cc kk, kk ≤ 33 → K P.1 = kk → ((a = 0 ∧ b = cc ∧ 0 ≤ cc ∧ cc ≤ 9999) ∨ (a = 1 ∧ 0 ≤ b ∧ b < 5 ∧ cc = -(b + 17) - 1)) → opd K S W (P, U ++ L, V) = (stq K S kk P, U ++ L, jup (jup (cdF cc V) 0 21 0) 0 20 0) → ∀ G : Int → jM → Prop, (∀ m6, (GL iX11_expr m6 24 [(2, 139), (0, V 0 23), (0, 0), (0, 1), (9, 0)] [] Q) → G 1 m6) → (∀ m6, Q 0 m6 → G 0 m6) → ML iX11_emit [(2, 139), (0, a), (0, b)] m (fun _ m4 => ML iX11_pass [(2, 139)] m4 G) := by
          intro a b cc kk hk3 hk hab eo G hG1 hG0
          rw [eo] at hxo
          have e162 : c0 ≤ m 162 k - 500 * k ∧ m 162 k - 500 * k < 500 := by omega
          refine c_emit hI.1 (by omega) ?_
          have f4 : rdK k c0 m (emM k a b m) := emM_K e162
          have E4 := exI_push hI (by omega) hab
          have W4 : wtR U (emM k a b m) := by
            unfold wtR emM at *
            rw [jup_ne (show (139 : Int) ≠ 162 by decide), jup_ne (show (139 : Int) ≠ 164 by decide), jup_ne (show (139 : Int) ≠ 163 by decide), jup_ne (show (189 : Int) ≠ 162 by decide), jup_ne (show (189 : Int) ≠ 164 by decide), jup_ne (show (189 : Int) ≠ 163 by decide)]
            exact hW
          refine c_passR (kk := kk) (rX_K hX f4) x5 hz hk (fun m6 y6 z6 => hG1 m6 ?_) (fun m6 y6 z6 => hG0 m6 ?_)
          · have XI2 := (XI_opd hv hXI (by rw [eo]; exact z6)).1
            rw [eo] at XI2
            have e23 : (jup (jup (cdF cc V) 0 21 0) 0 20 0) 0 23 = V 0 23 := by unfold cdF; rw [jup_j (by decide), jup_j (by decide), jup_j (by decide), jup_ne (by decide)]
            have e20 : (jup (jup (cdF cc V) 0 21 0) 0 20 0) 0 20 = 0 := jup_s
            have e21 : (jup (jup (cdF cc V) 0 21 0) 0 20 0) 0 21 = 0 := by rw [jup_j (by decide), jup_s]
            have g := ih (stq K S kk P) U (jup (jup (cdF cc V) 0 21 0) 0 20 0) m6 hxo (by rw [stq_1 z6]; omega) (by rw [stq_1 z6]; omega) z6 (Or.inr e21) (exV_j (exV_j (exV_c hVa) (Or.inr (Or.inl rfl))) (Or.inl rfl)) ⟨rdE_tr (rdE_tr hE (rdE_K f4)) (rdE_H y6.1), rX_base y6, by rw [e20]; exact exI_V (kI y6.1 E4) (by rw [jup_j (by decide), jup_j (by decide)]) (by rw [jup_ne (by decide), jup_ne (by decide)]) (by decide) rfl (fun x => (E4.2.2.2.2.2.2 x).2.2), kW y6.1 W4, hO, by rw [e23]; exact hB, XI2, by rw [k67 y6.1, f4 139 67 (by unfold okK; omega)]; exact h67⟩
            rw [e23, e20] at g
            exact g
          · have e : xlp K S W F X0 = (stq K S kk P, U ++ L, jup (jup (cdF cc V) 0 21 0) 0 20 0) := by rw [hxo]; exact xlp_f z6
            exact hQ0 m6 (rdE_tr (rdE_tr hE (rdE_K f4)) (rdE_H y6.1)) y6.2.1 (by rw [e]; exact z6) (by rw [e]; exact y6.2.2.1)
        have none : K P.1 ≠ 23 → ¬ (17 ≤ K P.1 ∧ K P.1 ≤ 21) → ML iX11_wrong [(2, 139), (0, 1)] m (fun r14 m15 => ((r14 = 0 ∨ r14 = 1) ∧ Q r14 m15)) := by
          intro n1 n2
          have ne : (flF S 1 P).2.1 ≠ 0 := flF_ne (by decide)
          have eo : (opd K S W (P, U ++ L, V)).1 = flF S 1 P := by
            unfold opd
            simp only
            rw [if_neg c16, if_neg k32, if_neg n1, if_neg n2]
          rw [eo] at mono
          exact c_wrongR hX x5 hz (by decide) (fun m1 y1 => ⟨Or.inl rfl, mono m1 y1 ne⟩)
        have at102 : ∀ s0, (17 ≤ K P.1 ∧ K P.1 ≤ 21 → s0 = K P.1 - 17) → (¬ (17 ≤ K P.1 ∧ K P.1 ≤ 21) → s0 = -1) → GL iX11_expr m 102 [(2, 139), (0, V 0 23), (9, 0), (0, 1), (9, 0)] [(0, s0)] Q := by
          intro s0 a1 a2
          refine sX11_expr_102 ?_
          rw [q0]
          refine ⟨p0.1, by omega, fun z1 => ⟨fun z2 => absurd z2 (by omega), fun z2 => ?_⟩, fun z1 => ⟨fun z2 => ⟨fun _ => ?_, fun z3 => absurd z2 z3⟩, fun z2 => none (by omega) (by omega)⟩⟩
          · have k23 : K P.1 = 23 := by omega
            refine sX11_expr_139 ⟨fun z3 => absurd z3 z2, fun _ => ?_⟩
            rw [q0]
            have t4 := tk.2.2.2.1 k23
            rw [t4.2.1]
            refine ⟨p0.1, by omega, val 0 (W P.1) (W P.1) 23 (by decide) k23 (Or.inl ⟨rfl, rfl, t4.2.2⟩) ?_ _ (fun m6 g => ⟨fun _ => g, fun w => absurd (by decide) w⟩) (fun m6 g => ⟨fun w => absurd rfl w, fun _ => g⟩)⟩
            unfold opd
            simp only
            rw [if_neg c16, if_neg k32, if_pos k23]
          · have kv : 17 ≤ K P.1 ∧ K P.1 ≤ 21 := Classical.byContradiction (fun w => by have := a2 w; omega)
            have s0e := a1 kv
            refine sX11_expr_139 ⟨fun _ => ?_, fun z3 => absurd z2 z3⟩
            refine val 1 s0 (-(K P.1) - 1) (K P.1) (by omega) rfl (Or.inr ⟨rfl, z2, by omega, by omega⟩) ?_ _ (fun m6 g => ⟨fun _ => g, fun w => absurd (by decide) w⟩) (fun m6 g => ⟨fun w => absurd rfl w, fun _ => g⟩)
            unfold opd
            simp only
            rw [if_neg c16, if_neg k32, if_neg (by omega), if_pos kv]
        rw [q0]
        refine ⟨p0.1, by omega, fun z1 => at102 (-1) (fun w => by omega) (fun _ => rfl), fun z1 => ⟨p0.1, by omega, ?_⟩⟩
        have k22 : K P.1 < 22 := by omega
        have tw := (tk.2.1 kr.1 k22).2
        have wv := wno_v kr.1 k22
        rw [tw]
        refine sX11_variableOf ⟨fun z2 => at102 (-1) (fun w => ?_) (fun _ => rfl), fun z2 => ?_⟩
        · have := wv.2 w.1; omega
        · have k17 : 17 ≤ K P.1 := Classical.byContradiction (fun w => by have := wv.1 (by omega); omega)
          have := wv.2 k17
          rw [jw_id (x := wno (K P.1) - 17) (by omega) (by omega)]
          exact at102 _ (fun _ => by omega) (fun w => absurd ⟨k17, by omega⟩ w)
