/-- at the head of a lit -/
def cdH (k st lb : Int) (base : List Int) (row : Int) (V m : jM) : Prop := bsK base ∧ (0 ≤ k ∧ k < 3 ∧ m 139 13 = k) ∧ (0 ≤ st ∧ st ≤ V 0 16 ∧ V 0 16 ≤ 400) ∧ cOk (V 32) st (V 0 16) ∧ (0 ≤ m 162 k - 500 * k ∧ m 162 k - 500 * k ≤ V 0 16) ∧ (0 ≤ lb ∧ lb ≤ m 165 k - 200 * k ∧ 2 * (m 165 k - 200 * k) ≤ m 162 k - 500 * k) ∧ m 139 68 = lb + 200 * k ∧ (∀ i, lb ≤ i → i < m 165 k - 200 * k → ltI k (m 162 k - 500 * k) m i) ∧ ((base = [] → m 165 k - 200 * k = lb) ∧ (base ≠ [] → lb < m 165 k - 200 * k) ∧ (base = [15] ∨ base = [15, 14] → row = vw m k 0 0 29 (m 165 k - 200 * k - 1)) ∧ (base = [14] → row = vw m k 0 0 29 (m 165 k - 200 * k - 1) + 1) ∧ (base = [15] → ∀ x, (hd (vw m k 0 0) x lb (m 165 k - 200 * k - lb).toNat).1 = false)) ∧ (0 ≤ row ∧ row ≤ m 165 k - 200 * k) ∧ (∀ x, cS V x st = stB base (hd (vw m k 0 0) x lb (m 165 k - 200 * k - lb).toNat)) ∧ V 0 20 = 1 ∧ V 0 21 = 1 ∧ V 0 22 = 1 ∧ V 0 23 = 0
/-- at a cond's end -/
def cdE (k st lb : Int) (V m : jM) : Prop := (0 ≤ st ∧ st ≤ V 0 16 ∧ V 0 16 ≤ 400) ∧ cOk (V 32) st (V 0 16) ∧ (0 ≤ m 162 k - 500 * k ∧ m 162 k - 500 * k ≤ V 0 16) ∧ (0 ≤ lb ∧ lb < m 165 k - 200 * k ∧ 2 * (m 165 k - 200 * k) ≤ m 162 k - 500 * k) ∧ m 139 68 = lb + 200 * k ∧ (∀ i, lb ≤ i → i < m 165 k - 200 * k → ltI k (m 162 k - 500 * k) m i) ∧ ∀ x, (cTop (cS V x st) ≠ 0 ↔ heldB (vw m k 0 0) x lb (m 165 k - 200 * k) = true)
/-- a cond leaves what was told before -/
def cdV (Va V : jM) : Prop := Va 0 16 ≤ V 0 16 ∧ (∀ j, j < 16 → V 0 j = Va 0 j) ∧ (∀ p, p ≠ 0 → p ≠ 32 → V p = Va p) ∧ ∀ i, i < Va 0 16 → V 32 i = Va 32 i
theorem cdV_x {Va V V1 : jM} (h : cdV Va V) (h2 : exV V V1) : cdV Va V1 := ⟨Int.le_trans h.1 h2.1, fun j hj => (h2.2.1 j (by omega) (by omega) (by omega) (by omega)).trans (h.2.1 j hj), fun p a b => (h2.2.2.1 p a b).trans (h.2.2.1 p a b), fun i hi => (h2.2.2.2 i (by have := h.1; omega)).trans (h.2.2.2 i hi)⟩
theorem cdV_j {Va V : jM} {j x : Int} (h : cdV Va V) (hj : 16 < j) : cdV Va (jup V 0 j x) := ⟨by rw [jup_j (by omega)]; exact h.1, fun i hi => by rw [jup_j (by omega)]; exact h.2.1 i hi, fun p a b => by rw [jup_ne a]; exact h.2.2.1 p a b, fun i hi => by rw [jup_ne (by decide)]; exact h.2.2.2 i hi⟩
theorem hdS_rep {nn : Nat} {b : List Int} (h : hdS b ≤ 2) : hdS (List.replicate nn 16 ++ b) ≤ 3 := by
  cases nn with
  | zero => exact Int.le_trans h (by decide)
  | succ n => show stg 16 ≤ 3; decide
theorem nbW_rep {b : List Int} : ∀ nn : Nat, nbW (List.replicate nn 16 ++ b) = nbW b := by
  intro nn
  induction nn with
  | zero => rfl
  | succ n ih =>
    simp only [List.replicate_succ, List.cons_append, nbW]
    rw [ih]
    simp
theorem c_condLoop {K S W : Int → Int} {n k c st lb c0 l0 : Int} {m0 V0 Va : jM} {Q : Int → jM → Prop} {F : Nat} {X0 : XR} (hv : tV K W n)
    (hQ0 : ∀ m', rdC k c0 l0 m0 m' → rTk K S W n m' → (xlp K S W F X0).1.2.1 ≠ 0 → rPs (xlp K S W F X0).1 m' → Q 0 m')
    (hQ1 : ∀ (Pe : Int × Int × Int) (m' : jM), rdC k c0 l0 m0 m' → (xlp K S W F X0).1 = stq K S 24 Pe → Pe.2.1 = 0 → Pe.1 ≤ n → rX K S W n k m' Pe V0 c m' → ((xlp K S W F X0).1.2.1 = 0 → cdE k st lb (xlp K S W F X0).2.2 m' ∧ cdV Va (xlp K S W F X0).2.2 ∧ c0 ≤ m' 162 k - 500 * k) → Q 1 m') :
    ∀ (N f : Nat) (P : Int × Int × Int) (base : List Int) (row : Int) (V m : jM), 401 - P.1 ≤ N → xlp K S W F X0 = xlp K S W f (P, base, V) → 401 - P.1 ≤ f → P.2.1 = 0 → XI n (P, base, V) → cdV Va V → rdC k c0 l0 m0 m → rX K S W n k m P V0 c m → c0 ≤ m 162 k - 500 * k → l0 ≤ m 165 k - 200 * k → cdH k st lb base row V m → GL iX11_cond m 17 [(2, 139), (0, row), (0, 1), (9, 0), (9, 0), (9, 0)] [] Q := by
  intro N
  induction N with
  | zero =>
    intro f P base row V m hN _ _ _ _ _ _ hX
    have := hX.2.2.1.1
    omega
  | succ N ih =>
    intro f P base row V m hN hx hf hz hXI hVa hC hX hc0 hl0 hH
    obtain ⟨hb, kk0, hst, hok, hcd, hlb, h68, hlt, hbase, hrow, hS, d20, d21, d22, d23⟩ := hH
    obtain ⟨lt, elt⟩ : ∃ lt, m 165 k = 200 * k + lt := ⟨m 165 k - 200 * k, by omega⟩
    obtain ⟨cd, ecd⟩ : ∃ cd, m 162 k = 500 * k + cd := ⟨m 162 k - 500 * k, by omega⟩
    have elt2 : m 165 k - 200 * k = lt := by omega
    have ecd2 : m 162 k - 500 * k = cd := by omega
    rw [elt2] at hlb hlt hbase hrow hS hl0
    rw [ecd2] at hcd hlb hlt hc0
    have bl := bs_len hb (false, false)
    have xl := hXI.2.2.1
    simp only at xl
    have p0 := hX.2.2.1.1
    have n4 := hX.2.1.2.2.2
    have sB : ∀ x, ((cS V x st).length : Int) = nbW base := fun x => by rw [hS x]; exact (bs_len hb _).1
    refine sX11_cond_17 ⟨fun w => absurd w (by decide), fun _ => ?_⟩
    rw [kk0.2.2, elt]
    refine ⟨kk0.1, kk0.2.1, ?_⟩
    have nots : ∀ (N2 g nn : Nat) (P1 : Int × Int × Int) (m1 : jM), 401 - P1.1 ≤ N2 → xlp K S W F X0 = xlp K S W g (P1, List.replicate nn 16 ++ base, V) → 401 - P1.1 ≤ g → P.1 ≤ P1.1 → P1.2.1 = 0 → XI n (P1, List.replicate nn 16 ++ base, V) → rdH m m1 → rX K S W n k m1 P1 V0 c m1 → GL iX11_cond m1 34 [(2, 139), (0, row), (9, 0), (0, 200 * k + lt), (0, nt nn), (9, 0)] [] Q := by
      intro N2
      induction N2 with
      | zero =>
        intro g nn P1 m1 hN2 _ _ _ _ _ _ hX1
        have := hX1.2.2.1.1
        omega
      | succ N2 ih2 =>
        intro g nn P1 m1 hN2 hx1 hg hp1 hz1 hXI1 hm1 hX1
        obtain ⟨g', rfl⟩ : ∃ g', g = g' + 1 := ⟨g - 1, by have := hX1.2.2.1.1; omega⟩
        have x5 := hXI1.2.2.2.2.1
        simp only at x5
        have xl1 := hXI1.2.2.1
        simp only at xl1
        have row1 : ∀ q, 162 ≤ q → q ≤ 171 → m1 q = m q := fun q a b => rdH_row hm1 (by omega) (by omega) (by omega)
        refine sX11_cond_34 (c_isWordR (kk := 16) hX1 x5 (by decide) (by decide) (by decide) (fun k16 => ⟨fun w => absurd w (by decide), fun _ => ?_⟩) (fun k16 => ⟨fun _ => ?_, fun w => absurd rfl w⟩))
        · -- one NOT more
          have eo : opd K S W (P1, List.replicate nn 16 ++ base, V) = (stq K S 16 P1, List.replicate (nn + 1) 16 ++ base, V) := by
            unfold opd
            simp only
            rw [if_pos ⟨k16, by omega⟩]
            rfl
          have hx2 : xlp K S W F X0 = xlp K S W g' (stq K S 16 P1, List.replicate (nn + 1) 16 ++ base, V) := by
            rw [hx1, xlp_d hz1 (by show V 0 20 ≠ 0; omega), eo]
          refine c_passR (kk := 16) hX1 x5 hz1 k16 (fun m2 y2 z2 => ⟨fun _ => ?_, fun w => absurd (by decide) w⟩) (fun m2 y2 z2 => ⟨fun w => absurd rfl w, fun _ => ?_⟩)
          · have XI2 := (XI_opd hv hXI1 (by rw [eo]; exact z2)).1
            rw [eo] at XI2
            have go := ih2 g' (nn + 1) (stq K S 16 P1) m2 (by rw [stq_1 z2]; omega) hx2 (by rw [stq_1 z2]; omega) (by rw [stq_1 z2]; omega) z2 XI2 (rdH_tr hm1 y2.1) (rX_base y2)
            simp only [nt] at go
            refine ⟨fun w => ?_, fun w => ?_⟩
            · rw [if_pos w] at go; exact go
            · rw [if_neg w] at go; exact go
          · have e : xlp K S W F X0 = (stq K S 16 P1, List.replicate (nn + 1) 16 ++ base, V) := by rw [hx2]; exact xlp_f z2
            exact hQ0 m2 (rdC_tr hC (rdC_H (rdH_tr hm1 y2.1))) y2.2.1 (by rw [e]; exact z2) (by rw [e]; exact y2.2.2.1)
        · -- the left side
          have hL3 : hdS (List.replicate nn 16 ++ base) ≤ 3 := hdS_rep bl.2.1
          have nbL : nbW (List.replicate nn 16 ++ base) = nbW base := nbW_rep nn
          have ecd1 : m1 162 k - 500 * k = cd := by rw [row1 162 (by decide) (by decide)]; exact ecd2
          have hrdG : ∀ {m'}, rdG k (m1 162 k - 500 * k) m1 m' → rdC k c0 l0 m0 m' := fun h => rdC_tr (rdC_tr hC (rdC_H hm1)) (rdC_G h (by omega))
          refine c_exprR (st := st) (s := fun x => cS V x st) (L := List.replicate nn 16 ++ base) (V := V) (P := P1) (F := F) (f := g' + 1) (X0 := X0) hv (by omega) (fun x => by rw [nbL]; exact sB x) hX1 rfl (by rw [ecd1]; exact hcd) hst hok (fun x => rfl) d20 d23 (Or.inl k16) hXI1 hx1 hg hz1 (fun m2 a b d e => ⟨fun w => absurd rfl w, fun _ => hQ0 m2 (hrdG a) b d e⟩) (fun f1 P2 U1 V1' V1 m2 hx2 hf2 hp2 hz2 hXI2 t20 t23 n25 n26 n27 hstl hV1' hV1 hm2 hX2 hE2 h67 => ⟨fun _ => ?_, fun w => absurd (by decide) w⟩)
          rw [ecd1] at hm2 hE2 h67
          obtain ⟨f1', rfl⟩ : ∃ f1', f1 = f1' + 1 := ⟨f1 - 1, by have := hX2.2.2.1.1; omega⟩
          have y5 := hXI2.2.2.2.2.1
          simp only at y5
          have yl := hXI2.2.2.1
          simp only at yl
          have ng := hXI2.2.2.2.2.2.2
          simp only at ng
          have ng := ng t20
          have t22 : V1' 0 22 = 1 := by rw [hV1'.2.1 22 (by decide) (by decide) (by decide) (by decide)]; exact d22
          have ex1 := hE2.1
          have ex2 := hE2.2.1
          have ex3 := hE2.2.2.1
          obtain ⟨eb, eeb⟩ : ∃ eb, m2 162 k = 500 * k + eb := ⟨m2 162 k - 500 * k, by omega⟩
          have eeb2 : m2 162 k - 500 * k = eb := by omega
          have l1 : ∀ x, (rSv k m2 x cd).length = 1 := fun x => by have := (hE2.2.2.2.2.2.2 x).2.1; have e : nbW [] = 0 := rfl; omega
          have lt2 : cd + 1 ≤ eb := by
            have := l1 (fun _ => 0)
            have e0 : ¬ (m2 162 k - 500 * k - cd).toNat = 0 := fun w => by
              unfold rSv at this
              rw [w] at this
              exact absurd this (by show ¬ (0 = 1); decide)
            omega
          have ltb : lt < 200 := by omega
          refine ⟨by omega, by omega, by rw [ex1.2.2]; exact ex1.1, by rw [ex1.2.2]; exact ex1.2.1, by omega, by omega, ?_⟩
          rw [ex1.2.2, h67, eeb]
          generalize hm3 : jup (jup m2 168 (200 * k + lt) (cd + 500 * k)) 169 (200 * k + lt) (500 * k + eb) = m3
          have r3 : ∀ q, q ≠ 168 → q ≠ 169 → m3 q = m2 q := fun q a b => by rw [← hm3, jup_ne b, jup_ne a]
          have hX3 : rX K S W n k m3 P2 V0 c m3 := rX_C hX2 (fun q hq => r3 q (by omega) (by omega))
          have q3 := hX3.2.2.1.2.1
          have tk3 := hX3.2.1.1 P2.1 hX3.2.2.1.1.1 y5
          have at145 : ∀ s0, (s0 ≠ 0 ↔ 28 ≤ K P2.1 ∧ K P2.1 ≤ 31) → GL iX11_cond m3 145 [(2, 139), (0, row), (9, 0), (0, 200 * k + lt), (0, nt nn), (9, 0)] [(0, s0)] Q := by
            intro s0 hs0
            refine sX11_cond_145 ⟨fun w => ?_, fun w => ?_⟩
            · have kc := hs0.mp w
              have tw := (tk3.2.2.2.2.1 (by omega) (by omega)).2
              rw [q3, tw]
              generalize hkk : K P2.1 = kk at *
              generalize hm4 : jup m3 167 (200 * k + lt) (sgn kk) = m4
              have hX4 : rX K S W n k m4 P2 V0 c m4 := rX_C hX3 (fun q hq => by rw [← hm4, jup_ne (by omega)])
              have s4 : stg kk = 4 := by
                have h : kk = 28 ∨ kk = 29 ∨ kk = 30 ∨ kk = 31 := by omega
                rcases h with rfl | rfl | rfl | rfl <;> decide
              have eo : opr K S (P2, U1 ++ (List.replicate nn 16 ++ base), V1') = (stq K S kk P2, kk :: (List.replicate nn 16 ++ base), jup (jup V1 0 20 1) 0 22 0) := by
                unfold opr
                simp only
                rw [hkk, if_neg (by omega), if_pos (by unfold mayF; omega), if_neg (by omega), s4, hstl 4 (by decide) (by decide), stl_low (by omega)]
                unfold opF
                rw [if_neg (by omega), if_pos kc]
              have hx3 : xlp K S W F X0 = xlp K S W f1' (stq K S kk P2, kk :: (List.replicate nn 16 ++ base), jup (jup V1 0 20 1) 0 22 0) := by
                rw [hx2, xlp_r hz2 t20 (by show K P2.1 ≠ 24; omega), eo]
              have hC4 : rdC k c0 l0 m0 m4 := by
                rw [← hm4, ← hm3]
                exact rdC_up (rdC_up (rdC_up (rdC_tr (rdC_tr hC (rdC_H hm1)) (rdC_G hm2 (by omega))) (by unfold okC; omega)) (by unfold okC; omega)) (by unfold okC; omega)
              refine ⟨hX3.2.2.1.1.1, by omega, by omega, by omega, c_passR (kk := kk) hX4 y5 hz2 hkk (fun m5 y5' z5 => ⟨fun w => absurd w (by decide), fun _ => ?_⟩) (fun m5 y5' z5 => ⟨fun _ => ?_, fun w => absurd rfl w⟩)⟩
              · have XI3 := (XI_opr hv hXI2 t20 (by rw [eo]; exact z5)).1
                rw [eo] at XI3
                generalize hV2 : jup (jup V1 0 20 1) 0 22 0 = V2 at *
                have v2 : ∀ j, j ≠ 20 → j ≠ 22 → V2 0 j = V1 0 j := fun j a b => by rw [← hV2, jup_j b, jup_j a]
                have v2p : ∀ p, p ≠ 0 → V2 p = V1 p := fun p a => by rw [← hV2, jup_ne a, jup_ne a]
                have v20 : V2 0 20 = 1 := by rw [← hV2, jup_j (by decide), jup_s]
                have v22 : V2 0 22 = 0 := by rw [← hV2, jup_s]
                have v21 : V2 0 21 = 0 := by rw [v2 21 (by decide) (by decide), hV1.2 21 (by decide)]; exact ng
                have v23 : V2 0 23 = 0 := by rw [v2 23 (by decide) (by decide), hV1.2 23 (by decide)]; exact t23
                have v16 : V2 0 16 = V1 0 16 := v2 16 (by decide) (by decide)
                have cS2 : ∀ x, cS V2 x st = rSv k m2 x cd ++ cS V x st := fun x => by rw [cS_V v16 (fun i _ => by rw [v2p 32 (by decide)])]; exact (hE2.2.2.2.2.2.2 x).1
                have r5 : ∀ q, q ≠ 139 → q ≠ 172 → q ≠ 173 → q ≠ 167 → q ≠ 168 → q ≠ 169 → m5 q = m2 q := fun q a b d e g h => by rw [rdH_row y5'.1 a b d, ← hm4, jup_ne e, r3 q g h]
                have ecd5 : m5 162 k - 500 * k = eb := by rw [r5 162 (by decide) (by decide) (by decide) (by decide) (by decide) (by decide)]; exact eeb2
                have hrdG2 : ∀ {m'}, rdG k (m5 162 k - 500 * k) m5 m' → rdC k c0 l0 m0 m' := fun h => rdC_tr (rdC_tr hC4 (rdC_H y5'.1)) (rdC_G h (by omega))
                refine c_exprR (st := st) (s := fun x => cS V2 x st) (L := kk :: (List.replicate nn 16 ++ base)) (V := V2) (P := stq K S kk P2) (F := F) (f := f1') (X0 := X0) hv (by show stg kk ≤ 4; omega) (fun x => ?_) (rX_base y5') rfl (by rw [ecd5, v16]; omega) (by rw [v16]; exact ex2) (by rw [v16, v2p 32 (by decide)]; exact hE2.2.2.2.2.1) (fun x => rfl) v20 v23 (Or.inr v21) XI3 hx3 (by rw [stq_1 z5]; omega) z5 (fun m6 a b d e => ⟨fun w => absurd rfl w, fun _ => hQ0 m6 (hrdG2 a) b d e⟩) (fun f2 P3 U2 V3' V3 m6 hx4 hf4 hp4 hz4 hXI4 u20 u23 n25' n26' n27' hstl2 hV3' hV3 hm6 hX6 hE6 _ => ⟨fun _ => ?_, fun w => absurd (by decide) w⟩)
                · show ((cS V2 x st).length : Int) = nbW (kk :: (List.replicate nn 16 ++ base))
                  rw [cS2, List.length_append]
                  simp only [nbW]
                  rw [if_neg (by omega), nbL]
                  have := sB x
                  have := l1 x
                  omega
                rw [ecd5] at hm6 hE6
                rw [stq_1 z5] at hp4
                obtain ⟨f2', rfl⟩ : ∃ f2', f2 = f2' + 1 := ⟨f2 - 1, by have := hX6.2.2.1.1; omega⟩
                have y6 := hXI4.2.2.2.2.1
                simp only at y6
                have yl6 := hXI4.2.2.1
                simp only at yl6
                have fx1 := hE6.1
                have fx2 := hE6.2.1
                have fx3 := hE6.2.2.1
                obtain ⟨ec, eec⟩ : ∃ ec, m6 162 k = 500 * k + ec := ⟨m6 162 k - 500 * k, by omega⟩
                have eec2 : m6 162 k - 500 * k = ec := by omega
                have l2 : ∀ x, (rSv k m6 x eb).length = 1 := fun x => by have := (hE6.2.2.2.2.2.2 x).2.1; have e : nbW [] = 0 := rfl; omega
                have lt3 : eb + 1 ≤ ec := by
                  have := l2 (fun _ => 0)
                  have e0 : ¬ (m6 162 k - 500 * k - eb).toNat = 0 := fun w => by
                    unfold rSv at this
                    rw [w] at this
                    exact absurd this (by show ¬ (0 = 1); decide)
                  omega
                have r6 : ∀ q, 165 ≤ q → q ≤ 171 → m6 q = m5 q := fun q a b => by
                  funext i
                  exact hm6 q i (Or.inl (by omega)) (Or.inl (by omega)) (by omega)
                have e165 : m6 165 k = 200 * k + lt := by rw [r6 165 (by decide) (by decide), r5 165 (by decide) (by decide) (by decide) (by decide) (by decide) (by decide), hm2 165 k (Or.inl (by omega)) (Or.inl (by omega)) (by omega), row1 165 (by decide) (by decide)]; exact elt
                have hC6 := hrdG2 (m' := m6) (by rw [ecd5]; exact hm6)
                have nt1 := nt_01 nn
                have fa : 0 ≤ m6 139 13 ∧ m6 139 13 < 3 := by rw [fx1.2.2]; exact ⟨fx1.1, fx1.2.1⟩
                refine ⟨fa.1, fa.2, by omega, by omega, by omega, by omega, nt1, by omega, by omega, fa.1, fa.2, fa.1, fa.2, ?_⟩
                rw [fx1.2.2, eec, e165, jw_id (x := 200 * k + lt + 1) (by omega) (by omega)]
                generalize hm7 : jup (jup (jup (jup m6 170 (200 * k + lt) (500 * k + ec)) 166 (200 * k + lt) (nt nn)) 171 (200 * k + lt) row) 165 k (200 * k + lt + 1) = m7
                have hC7 : rdC k c0 l0 m0 m7 := by
                  rw [← hm7]
                  exact rdC_up (rdC_up (rdC_up (rdC_up hC6 (by unfold okC; omega)) (by unfold okC; omega)) (by unfold okC; omega)) (by unfold okC; omega)
                have r7 : ∀ q, q ≠ 170 → q ≠ 166 → q ≠ 171 → q ≠ 165 → m7 q = m6 q := fun q a b d e => by rw [← hm7, jup_ne e, jup_ne d, jup_ne b, jup_ne a]
                have hX7 : rX K S W n k m7 P3 V0 c m7 := rX_C hX6 (fun q hq => r7 q (by omega) (by omega) (by omega) (by omega))
                -- the lits' rows
                have z7 : m7 166 (200 * k + lt) = nt nn ∧ m7 167 (200 * k + lt) = sgn kk ∧ m7 168 (200 * k + lt) = cd + 500 * k ∧ m7 169 (200 * k + lt) = 500 * k + eb ∧ m7 170 (200 * k + lt) = 500 * k + ec ∧ m7 171 (200 * k + lt) = row := by
                  refine ⟨?_, ?_, ?_, ?_, ?_, ?_⟩
                  · rw [← hm7, jup_ne (by decide), jup_ne (by decide), jup_s]
                  · rw [r7 167 (by decide) (by decide) (by decide) (by decide), r6 167 (by decide) (by decide), rdH_row y5'.1 (by decide) (by decide) (by decide), ← hm4, jup_s]
                  · rw [r7 168 (by decide) (by decide) (by decide) (by decide), r6 168 (by decide) (by decide), rdH_row y5'.1 (by decide) (by decide) (by decide), ← hm4, jup_ne (by decide), ← hm3, jup_ne (by decide), jup_s]
                  · rw [r7 169 (by decide) (by decide) (by decide) (by decide), r6 169 (by decide) (by decide), rdH_row y5'.1 (by decide) (by decide) (by decide), ← hm4, jup_ne (by decide), ← hm3, jup_s]
                  · rw [← hm7, jup_ne (by decide), jup_ne (by decide), jup_ne (by decide), jup_s]
                  · rw [← hm7, jup_ne (by decide), jup_s]
                have keepL : ∀ q i, 166 ≤ q → q ≤ 171 → i ≠ 200 * k + lt → m7 q i = m q i := by
                  intro q i a b hi
                  have e7 : m7 q i = m6 q i := by
                    rw [← hm7]
                    unfold jup
                    rw [if_neg (by omega), if_neg (by omega), if_neg (by omega), if_neg (by omega)]
                  have e5 : m5 q i = m2 q i := by
                    rw [rdH_row y5'.1 (by omega) (by omega) (by omega), ← hm4, ← hm3]
                    unfold jup
                    rw [if_neg (by omega), if_neg (by omega), if_neg (by omega)]
                  rw [e7, r6 q (by omega) b, e5, hm2 q i (Or.inl (by omega)) (Or.inl (by omega)) (by omega), row1 q (by omega) b]
                have code7 : ∀ q j, q = 163 ∨ q = 164 → j < 500 * k + eb → m7 q j = m2 q j := by
                  intro q j hq hj
                  rw [r7 q (by omega) (by omega) (by omega) (by omega), hm6 q j (Or.inr (Or.inr (Or.inr ⟨hq, Or.inl hj⟩))) (Or.inl (by omega)) (by omega), r5 q (by omega) (by omega) (by omega) (by omega) (by omega) (by omega)]
                have code0 : ∀ q j, q = 163 ∨ q = 164 → 0 ≤ j → j < cd → m7 q (500 * k + j) = m q (500 * k + j) := by
                  intro q j hq j0 hj
                  rw [code7 q _ hq (by omega), hm2 q _ (Or.inr (Or.inr (Or.inr ⟨hq, Or.inl (by omega)⟩))) (Or.inl (by omega)) (by omega), row1 q (by omega) (by omega)]
                have e22 : vw m7 k 0 0 22 = vw m6 k 0 0 22 := by
                  show cut 500 (fun i => m7 163 (500 * k + i)) = cut 500 (fun i => m6 163 (500 * k + i))
                  rw [r7 163 (by decide) (by decide) (by decide) (by decide)]
                have e23 : vw m7 k 0 0 23 = vw m6 k 0 0 23 := by
                  show cut 500 (fun i => m7 164 (500 * k + i)) = cut 500 (fun i => m6 164 (500 * k + i))
                  rw [r7 164 (by decide) (by decide) (by decide) (by decide)]
                have c22 : ∀ i, cd ≤ i → i < eb → vw m2 k 0 0 22 i = vw m7 k 0 0 22 i ∧ vw m2 k 0 0 23 i = vw m7 k 0 0 23 i := by
                  intro i i0 i1
                  rw [vw22 (by omega) (by omega), vw22 (by omega) (by omega), vw23 (by omega) (by omega), vw23 (by omega) (by omega), code7 163 _ (Or.inl rfl) (by omega), code7 164 _ (Or.inr rfl) (by omega)]
                  exact ⟨rfl, rfl⟩
                have vl := vwL (m := m7) (k := k) (i := lt) (by omega) ltb
                rw [z7.1, z7.2.1, z7.2.2.1, z7.2.2.2.1, z7.2.2.2.2.1, z7.2.2.2.2.2, show cd + 500 * k - 500 * k = cd by omega, show 500 * k + eb - 500 * k = eb by omega, show 500 * k + ec - 500 * k = ec by omega] at vl
                have ev1 : ∀ x, rEv (vw m7 k 0 0 22) (vw m7 k 0 0 23) x cd (eb - cd).toNat = rSv k m2 x cd := fun x => by
                  unfold rSv
                  rw [eeb2]
                  exact (rEv_cg _ (fun i i0 i1 => c22 i i0 (by omega))).symm
                have ev2 : ∀ x, rEv (vw m7 k 0 0 22) (vw m7 k 0 0 23) x eb (ec - eb).toNat = rSv k m6 x eb := fun x => by
                  unfold rSv
                  rw [eec2, e22, e23]
                have newL : ltI k ec m7 lt := by
                  have g1 := rOk_cg hE2.2.2.2.1 (fun i i0 i1 => c22 i i0 (by rw [eeb2] at i1; exact i1))
                  rw [eeb2] at g1
                  have g2 := hE6.2.2.2.1
                  rw [eec2] at g2
                  refine ⟨⟨by rw [vl.1]; exact nt1, by rw [vl.2.2.1, vl.2.2.2.1]; exact g1, by rw [vl.2.2.2.1, vl.2.2.2.2.1, e22, e23]; exact g2, fun x => ?_⟩, by rw [vl.2.2.2.2.1]; exact Int.le_refl _⟩
                  rw [vl.2.2.1, vl.2.2.2.1, vl.2.2.2.2.1, ev1, ev2]
                  refine ⟨fun w => ?_, fun w => ?_⟩
                  · have := l1 x; rw [w] at this; exact absurd this (by decide)
                  · have := l2 x; rw [w] at this; exact absurd this (by decide)
                have oldL : ∀ i, lb ≤ i → i < lt → ltI k ec m7 i ∧ (∀ x, litB (vw m7 k 0 0) x i = litB (vw m k 0 0) x i) ∧ vw m7 k 0 0 29 i = vw m k 0 0 29 i := by
                  intro i i0 i1
                  have g := lt_fr (m' := m7) (by omega) (by omega) (hlt i i0 i1) (by omega) (fun q a b => keepL q _ a b (by omega)) code0
                  exact ⟨⟨g.1.1, by have := g.1.2; omega⟩, g.2⟩
                have hd7 : ∀ x, hd (vw m7 k 0 0) x lb (lt - lb).toNat = hd (vw m k 0 0) x lb (lt - lb).toNat := fun x => hd_cg _ (fun i i0 i1 => ⟨(oldL i i0 (by omega)).2.1 x, (oldL i i0 (by omega)).2.2⟩)
                have hdn : ∀ x, hd (vw m7 k 0 0) x lb (lt + 1 - lb).toNat = nxB base (hd (vw m k 0 0) x lb (lt - lb).toNat) (litB (vw m7 k 0 0) x lt) := by
                  intro x
                  rw [show (lt + 1 - lb).toNat = (lt - lb).toNat + 1 by omega]
                  simp only [hd]
                  rw [show lb + (((lt - lb).toNat : Nat) : Int) = lt by omega, hd7, vl.2.2.2.2.2]
                  rcases hb with e | e | e | e
                  · have := hbase.1 e
                    rw [if_pos (Or.inl (by omega)), e]
                    rfl
                  · have l := hbase.2.1 (by rw [e]; decide)
                    rw [if_pos (Or.inr (by rw [(oldL (lt - 1) (by omega) (by omega)).2.2]; exact hbase.2.2.1 (Or.inl e))), e]
                    rfl
                  · have l := hbase.2.1 (by rw [e]; decide)
                    rw [if_neg (by rw [(oldL (lt - 1) (by omega) (by omega)).2.2, hbase.2.2.2.1 e]; omega), e]
                    rfl
                  · have l := hbase.2.1 (by rw [e]; decide)
                    rw [if_pos (Or.inr (by rw [(oldL (lt - 1) (by omega) (by omega)).2.2]; exact hbase.2.2.1 (Or.inr e))), e]
                    rfl
                -- the values on the class's side
                have sv : ∀ x, popS x (kk :: List.replicate nn 16) (cS V3 x st) = bv (litB (vw m7 k 0 0) x lt) :: cS V x st := by
                  intro x
                  have q : cS V3 x st = rSv k m6 x eb ++ cS V2 x st := (hE6.2.2.2.2.2.2 x).1
                  rw [q, cS2]
                  have a1 := l1 x
                  have a2 := l2 x
                  have lit : litB (vw m7 k 0 0) x lt = (cmpB (sgn kk) (cTop (rSv k m2 x cd)) (cTop (rSv k m6 x eb)) != decide (nt nn ≠ 0)) := by
                    unfold litB rVal cmpB
                    rw [vl.1, vl.2.1, vl.2.2.1, vl.2.2.2.1, vl.2.2.2.2.1, ev1, ev2]
                  rw [lit]
                  match hs2 : rSv k m2 x cd, hs6 : rSv k m6 x eb, a1, a2 with
                  | [u], [w'], _, _ =>
                    show popS x (List.replicate nn 16) (cx x (-kk - 1) (w' :: u :: cS V x st)) = _
                    rw [cx_cmp kc.1 kc.2, popS_not]
                    rfl
                have kOW : ∀ y ∈ kk :: List.replicate nn 16, kO y ∧ 3 ≤ stg y := by
                  intro y hy
                  simp only [List.mem_cons, List.mem_replicate] at hy
                  rcases hy with rfl | ⟨-, rfl⟩
                  · exact ⟨by unfold kO; omega, by omega⟩
                  · exact ⟨by unfold kO; omega, by decide⟩
                have lenW : ((kk :: List.replicate nn 16).length : Int) = nn + 1 := by simp
                have bsh : (base = [] → ∀ x, hd (vw m k 0 0) x lb (lt - lb).toNat = (false, true)) := fun e x => by
                  have := hbase.1 e
                  rw [show (lt - lb).toNat = 0 by omega]
                  rfl
                have u16 : V3' 0 16 ≤ V3 0 16 := hV3.1.1
                have sl3 : ∀ x, (cS V3 x st).length ≤ 31 := fun x => by
                  rw [(hE6.2.2.2.2.2.2 x).1, List.length_append]
                  have := l2 x
                  have := (hE6.2.2.2.2.2.2 x).2.2
                  have e : nbW [] = 0 := rfl
                  omega
                -- how much the code grows
                have lenU : ∀ sg, 1 ≤ sg → sg ≤ 5 → (stl sg (U2 ++ kk :: (List.replicate nn 16 ++ base)) V3').2 0 16 ≤ 400 := fun sg _ _ => by
                  have sc := stl_cd (s := sg) (W := U2 ++ kk :: (List.replicate nn 16 ++ base)) (V := V3')
                  have := sc.1
                  have := hX6.2.2.1.1
                  omega
                have goon : ∀ b1 b2 sg, (sg = 1 ∨ sg = 2) → base = b1 ++ b2 → (∀ y ∈ b1, sg ≤ stg y ∧ kO y) → hdS b2 < sg → stl sg (U2 ++ kk :: (List.replicate nn 16 ++ base)) V3' = (b2, pcd b1 (pcd (kk :: List.replicate nn 16) V3)) ∧ cOk ((pcd b1 (pcd (kk :: List.replicate nn 16) V3)) 32) st ((pcd b1 (pcd (kk :: List.replicate nn 16) V3)) 0 16) ∧ st ≤ (pcd b1 (pcd (kk :: List.replicate nn 16) V3)) 0 16 ∧ (pcd b1 (pcd (kk :: List.replicate nn 16) V3)) 0 16 ≤ 400 ∧ V3 0 16 ≤ (pcd b1 (pcd (kk :: List.replicate nn 16) V3)) 0 16 ∧ cdV Va (pcd b1 (pcd (kk :: List.replicate nn 16) V3)) ∧ (∀ x, cS (pcd b1 (pcd (kk :: List.replicate nn 16) V3)) x st = popS x b1 (bv (litB (vw m7 k 0 0) x lt) :: cS V x st)) ∧ ∀ j, j ≠ 16 → (pcd b1 (pcd (kk :: List.replicate nn 16) V3)) 0 j = V3 0 j := by
                  intro b1 b2 sg hsg hbb hb1 hb2
                  have e : stl sg (U2 ++ kk :: (List.replicate nn 16 ++ base)) V3' = (b2, pcd b1 (pcd (kk :: List.replicate nn 16) V3)) := by
                    rw [hstl2 sg (by omega) (by omega), ← List.cons_append, stl_pre (fun y hy => by have := (kOW y hy).2; omega), hbb, stl_pre (fun y hy => (hb1 y hy).1), stl_low hb2]
                  have p16 := pcd_16 (W := b1) (V := pcd (kk :: List.replicate nn 16) V3)
                  have p16' := pcd_16 (W := kk :: List.replicate nn 16) (V := V3)
                  have top := lenU sg (by omega) (by omega)
                  rw [e] at top
                  simp only at top
                  have o1 : cOk ((pcd (kk :: List.replicate nn 16) V3) 32) st ((pcd (kk :: List.replicate nn 16) V3) 0 16) := pcd_ok hE6.2.2.2.2.1 fx2.2.1 (by omega) (fun y hy => (kOW y hy).1) sl3
                  have e2 : ∀ x, cS (pcd (kk :: List.replicate nn 16) V3) x st = bv (litB (vw m7 k 0 0) x lt) :: cS V x st := fun x => by rw [pcd_S fx2.2.1]; exact sv x
                  refine ⟨e, pcd_ok o1 (by omega) (by omega) (fun y hy => (hb1 y hy).2) (fun x => ?_), by omega, top, by omega, ?_, fun x => by rw [pcd_S (by omega), e2], fun j hj => (pcd_V.2 j hj).trans (pcd_V.2 j hj)⟩
                  · rw [e2, List.length_cons]
                    have := sB x
                    have := bl.2.2.2.1
                    omega
                  · exact cdV_x (cdV_x (cdV_x (cdV_x (cdV_j (cdV_j (cdV_x (cdV_x hVa hV1') hV1.1) (j := 20) (x := 1) (by decide)) (j := 22) (x := 0) (by decide) |> fun h => by rw [hV2] at h; exact h) hV3') hV3.1) pcd_V.1) pcd_V.1
                have w22 : V3' 0 22 = 0 := by rw [hV3'.2.1 22 (by decide) (by decide) (by decide) (by decide)]; exact v22
                have m7f : m7 139 13 = k ∧ m7 139 68 = lb + 200 * k ∧ m7 162 k = 500 * k + ec ∧ m7 165 k = 200 * k + lt + 1 := by
                  refine ⟨by rw [r7 139 (by decide) (by decide) (by decide) (by decide)]; exact fx1.2.2, ?_, by rw [r7 162 (by decide) (by decide) (by decide) (by decide)]; exact eec, by rw [← hm7, jup_s]⟩
                  rw [r7 139 (by decide) (by decide) (by decide) (by decide), hm6 139 68 (by unfold okK; omega) (by unfold okH; omega) (by omega), y5'.1 139 68 (by unfold okH; omega), ← hm4, jup_ne (by decide), r3 139 (by decide) (by decide), hm2 139 68 (by unfold okK; omega) (by unfold okH; omega) (by omega), hm1 139 68 (by unfold okH; omega)]
                  exact h68
                -- the next lit's head
                have next : ∀ (P4 : Int × Int × Int) (b2 : List Int) (row' : Int) (V4 m8 : jM) (f4 : Nat), rX K S W n k m7 P4 V0 c m8 → P4.1 = P3.1 + 1 → P4.2.1 = 0 → xlp K S W F X0 = xlp K S W f4 (P4, b2, V4) → f4 = f2' → XI n (P4, b2, V4) → cdV Va V4 → bsK b2 → b2 ≠ [] → (b2 = [15] ∨ b2 = [15, 14] → row' = row) → (b2 = [14] → row' = row + 1) → (b2 = [15] → ∀ x, (nxB base (hd (vw m k 0 0) x lb (lt - lb).toNat) (litB (vw m7 k 0 0) x lt)).1 = false) → (0 ≤ row' ∧ row' ≤ lt + 1) → cOk (V4 32) st (V4 0 16) → (st ≤ V4 0 16 ∧ V4 0 16 ≤ 400 ∧ ec ≤ V4 0 16) → (∀ x, cS V4 x st = stB b2 (nxB base (hd (vw m k 0 0) x lb (lt - lb).toNat) (litB (vw m7 k 0 0) x lt))) → V4 0 20 = 1 ∧ V4 0 21 = 1 ∧ V4 0 22 = 1 ∧ V4 0 23 = 0 → GL iX11_cond m8 17 [(2, 139), (0, row'), (0, 1), (9, 0), (9, 0), (9, 0)] [] Q := by
                  intro P4 b2 row' V4 m8 f4 y8 e4 z8 hx8 hf8 hXI8 hV8 hb8 hn8 hr8 hr8' hr8f hrb hok8 hst8 hS8 hfl8
                  have r8 : ∀ q, 162 ≤ q → q ≤ 171 → m8 q = m7 q := fun q a b => rdH_row y8.1 (by omega) (by omega) (by omega)
                  have e162 : m8 162 k - 500 * k = ec := by rw [r8 162 (by decide) (by decide)]; omega
                  have e165 : m8 165 k - 200 * k = lt + 1 := by rw [r8 165 (by decide) (by decide)]; omega
                  have L8 : ∀ i, lb ≤ i → i < lt + 1 → ltI k ec m8 i ∧ (∀ x, litB (vw m8 k 0 0) x i = litB (vw m7 k 0 0) x i) ∧ vw m8 k 0 0 29 i = vw m7 k 0 0 29 i := by
                    intro i i0 i1
                    have g : ltI k ec m7 i := by
                      by_cases e : i = lt
                      · rw [e]; exact newL
                      · exact (oldL i i0 (by omega)).1
                    exact lt_fr (by omega) (by omega) g (by omega) (fun q a b => by rw [r8 q (by omega) b]) (fun q j hq _ _ => by rw [r8 q (by omega) (by omega)])
                  have hd8 : ∀ x, hd (vw m8 k 0 0) x lb (lt + 1 - lb).toNat = nxB base (hd (vw m k 0 0) x lb (lt - lb).toNat) (litB (vw m7 k 0 0) x lt) := fun x => by
                    rw [← hdn x]
                    exact hd_cg _ (fun i i0 i1 => ⟨(L8 i i0 (by omega)).2.1 x, (L8 i i0 (by omega)).2.2⟩)
                  have e29 : vw m8 k 0 0 29 lt = row := by rw [(L8 lt (by omega) (by omega)).2.2]; exact vl.2.2.2.2.2
                  refine ih f4 P4 b2 row' V4 m8 (by omega) hx8 (by omega) z8 hXI8 hV8 (rdC_tr hC7 (rdC_H y8.1)) (rX_base y8) (by rw [e162]; omega) (by rw [e165]; omega) ⟨hb8, ⟨kk0.1, kk0.2.1, by rw [y8.1 139 13 (by unfold okH; omega)]; exact m7f.1⟩, ⟨hst.1, hst8.1, hst8.2.1⟩, hok8, by rw [e162]; omega, by rw [e162, e165]; omega, by rw [y8.1 139 68 (by unfold okH; omega)]; exact m7f.2.1, ?_, ⟨fun e => absurd e hn8, fun _ => by rw [e165]; omega, ?_, ?_, ?_⟩, by rw [e165]; exact hrb, ?_, hfl8⟩
                  · rw [e162, e165]
                    exact fun i i0 i1 => (L8 i i0 i1).1
                  · rw [e165, show lt + 1 - 1 = lt by omega, e29]
                    exact hr8
                  · rw [e165, show lt + 1 - 1 = lt by omega, e29]
                    exact hr8'
                  · rw [e165]
                    intro e x
                    rw [hd8 x]
                    exact hr8f e x
                  · rw [e165]
                    intro x
                    rw [hd8 x]
                    exact hS8 x
                refine c_isWordR (kk := 15) hX7 y6 (by decide) (by decide) (by decide) (fun k15 => ⟨fun _ => ?_, fun w => absurd (by decide) w⟩) (fun k15 => ⟨fun w => absurd rfl w, fun _ => ?_⟩)
                · -- AND
                  obtain ⟨b1, b2, eb, hb1, hb2, hbs, hne, hpop⟩ := bs_and hb
                  have hd2 : hdS b2 < 2 := by rcases hb2 with e | e <;> rw [e] <;> decide
                  have go := goon b1 b2 2 (Or.inr rfl) eb (fun y hy => by rw [hb1 y hy]; exact ⟨by decide, by unfold kO; omega⟩) hd2
                  generalize hVp : pcd b1 (pcd (kk :: List.replicate nn 16) V3) = Vp at *
                  have eo2 : opr K S (P3, U2 ++ kk :: (List.replicate nn 16 ++ base), V3') = (stq K S 15 P3, 15 :: b2, jup (jup (jup Vp 0 20 1) 0 21 1) 0 22 1) := by
                    unfold opr
                    simp only
                    rw [if_neg (by omega), k15, if_pos (by unfold mayF; omega), if_neg (by decide), show stg 15 = 2 from rfl, go.1]
                    rfl
                  have hx5 : xlp K S W F X0 = xlp K S W f2' (stq K S 15 P3, 15 :: b2, jup (jup (jup Vp 0 20 1) 0 21 1) 0 22 1) := by
                    rw [hx4, xlp_r hz4 u20 (by show K P3.1 ≠ 24; omega), eo2]
                  refine sX11_cond_255 (c_isWordR (kk := 14) hX7 y6 (by decide) (by decide) (by decide) (fun w => by omega) (fun _ => ⟨fun _ => ⟨fun w => absurd w (by decide), fun _ => ?_⟩, fun w => absurd rfl w⟩))
                  refine c_passR (kk := 15) hX7 y6 hz4 k15 (fun m8 y8 z8 => ⟨fun _ => ?_, fun w => absurd (by decide) w⟩) (fun m8 y8 z8 => ⟨fun w => absurd rfl w, fun _ => ?_⟩)
                  · have XI5 := (XI_opr hv hXI4 u20 (by rw [eo2]; exact z8)).1
                    rw [eo2] at XI5
                    have v5 : ∀ j, j ≠ 20 → j ≠ 21 → j ≠ 22 → (jup (jup (jup Vp 0 20 1) 0 21 1) 0 22 1) 0 j = Vp 0 j := fun j a b d => by rw [jup_j d, jup_j b, jup_j a]
                    have v5p : ∀ p, p ≠ 0 → (jup (jup (jup Vp 0 20 1) 0 21 1) 0 22 1) p = Vp p := fun p a => by rw [jup_ne a, jup_ne a, jup_ne a]
                    have bdx : ∀ x, nxB base (hd (vw m k 0 0) x lb (lt - lb).toNat) (litB (vw m7 k 0 0) x lt) = nxB base (hd (vw m k 0 0) x lb (lt - lb).toNat) (litB (vw m7 k 0 0) x lt) := fun _ => rfl
                    refine next (stq K S 15 P3) (15 :: b2) row _ m8 f2' y8 (stq_1 z8) z8 hx5 rfl XI5 (cdV_j (cdV_j (cdV_j go.2.2.2.2.2.1 (by decide)) (by decide)) (by decide)) hbs (by simp) (fun _ => rfl) (fun e => by simp at e) (fun e x => ?_) (by omega) (by rw [v5 16 (by decide) (by decide) (by decide), v5p 32 (by decide)]; exact go.2.1) (by rw [v5 16 (by decide) (by decide) (by decide)]; omega) (fun x => ?_) ⟨by rw [jup_j (by decide), jup_j (by decide), jup_s], by rw [jup_j (by decide), jup_s], jup_s, ?_⟩
                    · have ne := hne e
                      rcases hb with q | q | q | q
                      · have := bsh q x
                        rw [this, q]; rfl
                      · have := hbase.2.2.2.2 q x
                        rw [q]; exact this
                      · exact absurd q ne.1
                      · exact absurd q ne.2
                    · rw [cS_V (v5 16 (by decide) (by decide) (by decide)) (fun i _ => by rw [v5p 32 (by decide)]), go.2.2.2.2.2.2.1 x, hS x]
                      exact hpop x _ _ (fun e => bsh e x) (fun e => hbase.2.2.2.2 e x)
                    · rw [v5 23 (by decide) (by decide) (by decide), go.2.2.2.2.2.2.2 23 (by decide), hV3.2 23 (by decide)]; exact u23
                  · have e : xlp K S W F X0 = (stq K S 15 P3, 15 :: b2, jup (jup (jup Vp 0 20 1) 0 21 1) 0 22 1) := by rw [hx5]; exact xlp_f z8
                    exact hQ0 m8 (rdC_tr hC7 (rdC_H y8.1)) y8.2.1 (by rw [e]; exact z8) (by rw [e]; exact y8.2.2.1)
                · have go := goon base [] 1 (Or.inl rfl) (List.append_nil _).symm (fun y hy => ⟨bl.2.2.2.2.1 y hy, bl.2.2.1 y hy⟩) (by decide)
                  generalize hVp : pcd base (pcd (kk :: List.replicate nn 16) V3) = Vp at *
                  have all : ∀ x, cS Vp x st = [bv ((nxB base (hd (vw m k 0 0) x lb (lt - lb).toNat) (litB (vw m7 k 0 0) x lt)).1 || (nxB base (hd (vw m k 0 0) x lb (lt - lb).toNat) (litB (vw m7 k 0 0) x lt)).2)] := fun x => by
                    rw [go.2.2.2.2.2.2.1 x, hS x]
                    exact bs_all hb x _ _ (fun e => bsh e x) (fun e => hbase.2.2.2.2 e x)
                  refine c_isWordR (kk := 14) hX7 y6 (by decide) (by decide) (by decide) (fun k14 => ⟨fun w => absurd w (by decide), fun _ => ?_⟩) (fun k14 => ⟨fun _ => ?_, fun w => absurd rfl w⟩)
                  · -- OR
                    have eo2 : opr K S (P3, U2 ++ kk :: (List.replicate nn 16 ++ base), V3') = (stq K S 14 P3, [14], jup (jup (jup Vp 0 20 1) 0 21 1) 0 22 1) := by
                      unfold opr
                      simp only
                      rw [if_neg (by omega), k14, if_pos (by unfold mayF; omega), if_neg (by decide), show stg 14 = 1 from rfl, go.1]
                      rfl
                    have hx5 : xlp K S W F X0 = xlp K S W f2' (stq K S 14 P3, [14], jup (jup (jup Vp 0 20 1) 0 21 1) 0 22 1) := by
                      rw [hx4, xlp_r hz4 u20 (by show K P3.1 ≠ 24; omega), eo2]
                    refine sX11_cond_255 (c_isWordR (kk := 14) hX7 y6 (by decide) (by decide) (by decide) (fun _ => ⟨fun w => absurd w (by decide), fun _ => ⟨fun w => absurd w (by decide), fun _ => ?_⟩⟩) (fun w => absurd k14 w))
                    rw [jw_id (x := row + 1) (by omega) (by omega)]
                    refine c_passR (kk := 14) hX7 y6 hz4 k14 (fun m8 y8 z8 => ⟨fun _ => ?_, fun w => absurd (by decide) w⟩) (fun m8 y8 z8 => ⟨fun w => absurd rfl w, fun _ => ?_⟩)
                    · have XI5 := (XI_opr hv hXI4 u20 (by rw [eo2]; exact z8)).1
                      rw [eo2] at XI5
                      have v5 : ∀ j, j ≠ 20 → j ≠ 21 → j ≠ 22 → (jup (jup (jup Vp 0 20 1) 0 21 1) 0 22 1) 0 j = Vp 0 j := fun j a b d => by rw [jup_j d, jup_j b, jup_j a]
                      have v5p : ∀ p, p ≠ 0 → (jup (jup (jup Vp 0 20 1) 0 21 1) 0 22 1) p = Vp p := fun p a => by rw [jup_ne a, jup_ne a, jup_ne a]
                      refine next (stq K S 14 P3) [14] (row + 1) _ m8 f2' y8 (stq_1 z8) z8 hx5 rfl XI5 (cdV_j (cdV_j (cdV_j go.2.2.2.2.2.1 (by decide)) (by decide)) (by decide)) (Or.inr (Or.inr (Or.inl rfl))) (by simp) (fun e => by simp at e) (fun _ => rfl) (fun e x => by simp at e) (by omega) (by rw [v5 16 (by decide) (by decide) (by decide), v5p 32 (by decide)]; exact go.2.1) (by rw [v5 16 (by decide) (by decide) (by decide)]; omega) (fun x => ?_) ⟨by rw [jup_j (by decide), jup_j (by decide), jup_s], by rw [jup_j (by decide), jup_s], jup_s, ?_⟩
                      · rw [cS_V (v5 16 (by decide) (by decide) (by decide)) (fun i _ => by rw [v5p 32 (by decide)]), all x]
                        rfl
                      · rw [v5 23 (by decide) (by decide) (by decide), go.2.2.2.2.2.2.2 23 (by decide), hV3.2 23 (by decide)]; exact u23
                    · have e : xlp K S W F X0 = (stq K S 14 P3, [14], jup (jup (jup Vp 0 20 1) 0 21 1) 0 22 1) := by rw [hx5]; exact xlp_f z8
                      exact hQ0 m8 (rdC_tr hC7 (rdC_H y8.1)) y8.2.1 (by rw [e]; exact z8) (by rw [e]; exact y8.2.2.1)
                  · -- the end
                    refine sX11_cond_255 (c_isWordR (kk := 14) hX7 y6 (by decide) (by decide) (by decide) (fun w => absurd w k14) (fun _ => ⟨fun _ => ⟨fun _ => sX11_cond_17 ⟨fun _ => ?_, fun w => absurd rfl w⟩, fun w => absurd rfl w⟩, fun w => absurd rfl w⟩))
                    by_cases k24 : K P3.1 = 24
                    · have eo2 : opr K S (P3, U2 ++ kk :: (List.replicate nn 16 ++ base), V3') = (stq K S 24 P3, [], Vp) := by
                        unfold opr
                        simp only
                        rw [if_neg (by omega), k24, if_pos (by unfold mayF; omega), if_pos rfl, go.1]
                      have e : xlp K S W F X0 = (stq K S 24 P3, [], Vp) := by rw [hx4, xlp_e hz4 u20 k24, eo2]
                      refine hQ1 P3 m7 hC7 (by rw [e]) hz4 y6 hX7 (fun _ => ?_)
                      rw [e]
                      refine ⟨⟨⟨hst.1, go.2.2.1, go.2.2.2.1⟩, go.2.1, by rw [m7f.2.2.1]; show 0 ≤ _ ∧ _ ≤ Vp 0 16; omega, by rw [m7f.2.2.1, m7f.2.2.2]; omega, m7f.2.1, ?_, fun x => ?_⟩, go.2.2.2.2.2.1, by rw [m7f.2.2.1]; omega⟩
                      · rw [m7f.2.2.1, m7f.2.2.2, show 200 * k + lt + 1 - 200 * k = lt + 1 by omega, show 500 * k + ec - 500 * k = ec by omega]
                        intro i i0 i1
                        by_cases e : i = lt
                        · rw [e]; exact newL
                        · exact (oldL i i0 (by omega)).1
                      · rw [m7f.2.2.2, show 200 * k + lt + 1 - 200 * k = lt + 1 by omega]
                        show cTop (cS Vp x st) ≠ 0 ↔ _
                        rw [all x]
                        unfold heldB
                        rw [hdn x]
                        generalize ((nxB base (hd (vw m k 0 0) x lb (lt - lb).toNat) (litB (vw m7 k 0 0) x lt)).1 || (nxB base (hd (vw m k 0 0) x lb (lt - lb).toNat) (litB (vw m7 k 0 0) x lt)).2) = B
                        cases B <;> decide
                    · have ne : (flF S 1 P3).2.1 ≠ 0 := flF_ne (by decide)
                      have eo2 : opr K S (P3, U2 ++ kk :: (List.replicate nn 16 ++ base), V3') = (flF S 1 P3, U2 ++ kk :: (List.replicate nn 16 ++ base), V3') := by
                        unfold opr
                        simp only
                        rw [if_neg (by omega), if_neg (by unfold mayF; omega)]
                      have e : xlp K S W F X0 = (flF S 1 P3, U2 ++ kk :: (List.replicate nn 16 ++ base), V3') := by rw [hx4, xlp_r hz4 u20 k24, eo2, xlp_f (by exact ne)]
                      have es : stq K S 24 P3 = flF S 1 P3 := by
                        unfold stq flF
                        rw [if_neg (fun w => w hz4), if_pos k24, if_neg (fun w => w hz4)]
                      exact hQ1 P3 m7 hC7 (by rw [e, es]) hz4 y6 hX7 (fun w => absurd w (by rw [e]; exact ne))
              · have e : xlp K S W F X0 = (stq K S kk P2, kk :: (List.replicate nn 16 ++ base), jup (jup V1 0 20 1) 0 22 0) := by rw [hx3]; exact xlp_f z5
                exact hQ0 m5 (rdC_tr hC4 (rdC_H y5'.1)) y5'.2.1 (by rw [e]; exact z5) (by rw [e]; exact y5'.2.2.1)
            · have nk : ¬ (28 ≤ K P2.1 ∧ K P2.1 ≤ 31) := fun h => w (hs0.mpr h)
              have ne : (flF S 1 P2).2.1 ≠ 0 := flF_ne (by decide)
              have eo : opr K S (P2, U1 ++ (List.replicate nn 16 ++ base), V1') = (flF S 1 P2, U1 ++ (List.replicate nn 16 ++ base), V1') := by
                unfold opr
                simp only
                rw [if_neg (by omega), if_neg (by unfold mayF; omega)]
              have e : (xlp K S W F X0).1 = flF S 1 P2 := by
                rw [hx2]
                by_cases c24 : K P2.1 = 24
                · rw [xlp_e hz2 t20 c24, eo]
                · rw [xlp_r hz2 t20 c24, eo, xlp_f (by exact ne)]
              have hC3 : rdC k c0 l0 m0 m3 := by
                rw [← hm3]
                exact rdC_up (rdC_up (rdC_tr (rdC_tr hC (rdC_H hm1)) (rdC_G hm2 (by omega))) (by unfold okC; omega)) (by unfold okC; omega)
              exact c_wrongR hX3 y5 hz2 (by decide) (fun m5 y5' => ⟨Or.inl rfl, hQ0 m5 (rdC_tr hC3 (rdC_H y5'.1)) y5'.2.1 (by rw [e]; exact ne) (by rw [e]; exact y5'.2.2.1)⟩)
          refine c_isSignR (kk := 28) hX3 y5 (by decide) (by decide) (by decide) (fun w => ⟨fun _ => at145 1 ⟨fun _ => by omega, fun _ => by decide⟩, fun w => absurd (by decide) w⟩) (fun w28 => ⟨fun w => absurd rfl w, fun _ => ?_⟩)
          refine c_isSignR (kk := 29) hX3 y5 (by decide) (by decide) (by decide) (fun w => ⟨fun _ => at145 1 ⟨fun _ => by omega, fun _ => by decide⟩, fun w => absurd (by decide) w⟩) (fun w29 => ⟨fun w => absurd rfl w, fun _ => ?_⟩)
          refine c_isSignR (kk := 31) hX3 y5 (by decide) (by decide) (by decide) (fun w => ⟨fun _ => at145 1 ⟨fun _ => by omega, fun _ => by decide⟩, fun w => absurd (by decide) w⟩) (fun w31 => ⟨fun w => absurd rfl w, fun _ => ?_⟩)
          refine c_isSignR (kk := 30) hX3 y5 (by decide) (by decide) (by decide) (fun w => ⟨fun w => absurd w (by decide), fun _ => at145 1 ⟨fun _ => by omega, fun _ => by decide⟩⟩) (fun w30 => ⟨fun _ => at145 0 ⟨fun w => absurd rfl w, fun w => by omega⟩, fun w => absurd rfl w⟩)
    exact nots 401 f 0 P m (by omega) hx hf (Int.le_refl _) hz hXI rdH_rf hX
