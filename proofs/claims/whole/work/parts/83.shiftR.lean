/-! shifts in the reference -/
def p5 (n : Int) : Int := if n = 0 then 1 else if n = 1 then 5 else if n = 2 then 25 else 125
def dD (n : Int) : Int := if n = 0 then 125 else if n = 1 then 25 else if n = 2 then 5 else 1
def pE (i s : Int) : Int := if s = 0 then i / 25 else if s = 1 then i / 5 else i
def sE (i s : Int) : Int := (if s < 2 then ab (pD i 2) else 0) + (if s < 1 then ab (pD i 1) else 0) + (if s < 0 then ab (pD i 0) else 0)
theorem dD_all {N k : Int} (n0 : 0 ≤ N) (n3 : N ≤ 3) (k0 : 0 ≤ k) (k1 : k < p5 N) : (0 ≤ dD N * k ∧ dD N * k ≤ dD N * k + dD N / 2 ∧ dD N * k + dD N / 2 < dD N * (k + 1) ∧ dD N * (k + 1) ≤ 125) ∧ k < 125 ∧ vld N (dD N * k + dD N / 2) ∧ (∀ j, dD N * k ≤ j → j < dD N * k + dD N / 2 → ¬ vld N j) ∧ (∀ j, dD N * k + dD N / 2 < j → j < dD N * (k + 1) → ¬ vld N j) ∧ (∀ s, 0 ≤ s → s < 3 → (N ≤ s → pD (dD N * k + dD N / 2) s = 0) ∧ (s < N → pD (dD N * k + dD N / 2) s = pE (dD N * k + dD N / 2) s % 5 - 2) ∧ (N - 1 = s → pE (dD N * k + dD N / 2) s = k) ∧ (1 ≤ s → pE (dD N * k + dD N / 2) (s - 1) = pE (dD N * k + dD N / 2) s / 5) ∧ 0 ≤ pE (dD N * k + dD N / 2) s ∧ pE (dD N * k + dD N / 2) s < 125) := by
  have c : N = 0 ∨ N = 1 ∨ N = 2 ∨ N = 3 := by omega
  have key : ∀ (D i : Int), i = D * k + D / 2 → 0 ≤ i → i < 125 → (∀ s, 0 ≤ s → s < 3 → (N ≤ s → pD i s = 0) ∧ (N - 1 = s → pE i s = k)) → (∀ s, 0 ≤ s → s < 3 → (N ≤ s → pD i s = 0) ∧ (s < N → pD i s = pE i s % 5 - 2) ∧ (N - 1 = s → pE i s = k) ∧ (1 ≤ s → pE i (s - 1) = pE i s / 5) ∧ 0 ≤ pE i s ∧ pE i s < 125) := by
    intro D i hi i0 i1 h s s0 s1
    refine ⟨(h s s0 s1).1, fun _ => ?_, (h s s0 s1).2, fun q => ?_, ?_, ?_⟩
    · unfold pD pE
      split
      · omega
      · split <;> omega
    · have : s = 1 ∨ s = 2 := by omega
      rcases this with rfl | rfl
      · show i / 25 = i / 5 / 5; omega
      · show i / 5 = i / 5; rfl
    · unfold pE; split
      · omega
      · split <;> omega
    · unfold pE; split
      · omega
      · split <;> omega
  have s3 : ∀ s : Int, 0 ≤ s → s < 3 → s = 0 ∨ s = 1 ∨ s = 2 := by intro s a b; omega
  rcases c with rfl | rfl | rfl | rfl
  · have e1 : dD 0 = 125 := rfl
    have e2 : p5 0 = 1 := rfl
    rw [e2] at k1; rw [e1]
    refine ⟨by omega, by omega, by unfold vld pD; omega, fun j a b => by unfold vld pD; omega, fun j a b => by unfold vld pD; omega, key 125 _ rfl (by omega) (by omega) (fun s a b => ?_)⟩
    rcases s3 s a b with rfl | rfl | rfl <;> unfold pD pE <;> omega
  · have e1 : dD 1 = 25 := rfl
    have e2 : p5 1 = 5 := rfl
    rw [e2] at k1; rw [e1]
    refine ⟨by omega, by omega, by unfold vld pD; omega, fun j a b => by unfold vld pD; omega, fun j a b => by unfold vld pD; omega, key 25 _ rfl (by omega) (by omega) (fun s a b => ?_)⟩
    rcases s3 s a b with rfl | rfl | rfl <;> unfold pD pE <;> omega
  · have e1 : dD 2 = 5 := rfl
    have e2 : p5 2 = 25 := rfl
    rw [e2] at k1; rw [e1]
    refine ⟨by omega, by omega, by unfold vld pD; omega, fun j a b => by unfold vld pD; omega, fun j a b => by unfold vld pD; omega, key 5 _ rfl (by omega) (by omega) (fun s a b => ?_)⟩
    rcases s3 s a b with rfl | rfl | rfl <;> unfold pD pE <;> omega
  · have e1 : dD 3 = 1 := rfl
    have e2 : p5 3 = 125 := rfl
    rw [e2] at k1; rw [e1]
    refine ⟨by omega, by omega, by unfold vld pD; omega, fun j a b => by unfold vld pD; omega, fun j a b => by unfold vld pD; omega, key 1 _ rfl (by omega) (by omega) (fun s a b => ?_)⟩
    rcases s3 s a b with rfl | rfl | rfl <;> unfold pD pE <;> omega
theorem dD_p5 {N : Int} (n0 : 0 ≤ N) (n3 : N ≤ 3) : dD N * p5 N = 125 ∧ 1 ≤ p5 N ∧ (N < 3 → p5 (N + 1) = p5 N * 5) := by
  have c : N = 0 ∨ N = 1 ∨ N = 2 ∨ N = 3 := by omega
  rcases c with rfl | rfl | rfl | rfl
  · exact ⟨rfl, by decide, fun _ => rfl⟩
  · exact ⟨rfl, by decide, fun _ => rfl⟩
  · exact ⟨rfl, by decide, fun _ => rfl⟩
  · exact ⟨rfl, by decide, fun h => absurd h (by decide)⟩
theorem shN_gap {V : jM} {n : Nat} : ∀ d : Nat, (∀ j : Int, (n : Int) ≤ j → j < ((n + d : Nat) : Int) → ¬ vld (V 0 2) j) → shN V (n + d) = shN V n := by
  intro d
  induction d with
  | zero => intro _; rfl
  | succ d ih =>
    intro h
    have e : shN V (n + (d + 1)) = @ite _ (vld (V 0 2) ((n + d : Nat) : Int) ∧ ((shN V (n + d)).1 < 0 ∨ nbI V ((n + d : Nat) : Int) < (shN V (n + d)).1 ∨ (nbI V ((n + d : Nat) : Int) = (shN V (n + d)).1 ∧ pSu ((n + d : Nat) : Int) < (shN V (n + d)).2.1))) (Classical.propDecidable _) (nbI V ((n + d : Nat) : Int), pSu ((n + d : Nat) : Int), ((n + d : Nat) : Int)) (shN V (n + d)) := rfl
    rw [e, if_neg (fun w => h ((n + d : Nat) : Int) (by omega) (by omega) w.1)]
    exact ih (fun j a b => h j a (by omega))
/-- one block of shifts -/
theorem shN_blk {V : jM} {a i b : Int} (a0 : 0 ≤ a) (h1 : a ≤ i) (h2 : i < b) (hv : vld (V 0 2) i) (g1 : ∀ j, a ≤ j → j < i → ¬ vld (V 0 2) j) (g2 : ∀ j, i < j → j < b → ¬ vld (V 0 2) j) : shN V b.toNat = @ite _ ((shN V a.toNat).1 < 0 ∨ nbI V i < (shN V a.toNat).1 ∨ (nbI V i = (shN V a.toNat).1 ∧ pSu i < (shN V a.toNat).2.1)) (Classical.propDecidable _) (nbI V i, pSu i, i) (shN V a.toNat) := by
  have e1 := shN_gap (V := V) (n := a.toNat) (i - a).toNat (fun j x y => g1 j (by omega) (by omega))
  have e2 := shN_gap (V := V) (n := (i + 1).toNat) (b - (i + 1)).toNat (fun j x y => g2 j (by omega) (by omega))
  rw [show a.toNat + (i - a).toNat = i.toNat by omega] at e1
  rw [show (i + 1).toNat + (b - (i + 1)).toNat = b.toNat by omega, show (i + 1).toNat = i.toNat + 1 by omega] at e2
  rw [e2]
  simp only [shN]
  rw [e1, Int.toNat_of_nonneg (by omega)]
  by_cases q : (shN V a.toNat).1 < 0 ∨ nbI V i < (shN V a.toNat).1 ∨ (nbI V i = (shN V a.toNat).1 ∧ pSu i < (shN V a.toNat).2.1)
  · rw [if_pos q, if_pos ⟨hv, q⟩]
  · rw [if_neg q, if_neg (fun w => q w.2)]
abbrev s6 : List Int := [209, 210, 211, 212, 213, 214]
theorem s6_keep {V m m' : jM} {k : Int} (f : frx s6 [] m m') (hG : rG V k m) (hA : aRr (flL V (V 0 2).toNat) m) : rfx m m' ∧ rG V k m' ∧ aRr (flL V (V 0 2).toNat) m' := by
  refine ⟨rfx_of f (by decide), rG_fr hG (f 139 69 (by decide) (by decide)) (f 139 12 (by decide) (by decide)) (f 139 44 (by decide) (by decide)) (f 139 50 (by decide) (by decide)) (agr_of f (by decide)), ?_⟩
  unfold aRr at hA ⊢
  rw [f 139 89 (by decide) (by decide), frx_row f 206 (by decide) (by decide), frx_row f 207 (by decide) (by decide), frx_row f 208 (by decide) (by decide)]
  exact hA
theorem s6_put {m m1 m2 : jM} {i x p : Int} (f : frx s6 [] m m1) (hp : p = 209 ∨ p = 214) (h : ∀ q, q ≠ p → m2 q = m1 q) : frx s6 [] m m2 := by
  intro q j hq hj
  rw [h q (by rintro rfl; rcases hp with rfl | rfl <;> exact hq (by decide))]
  exact f q j hq hj
theorem s6_bus {m m1 m2 : jM} (f : frx s6 [] m m1) (h : ∀ q, q ≠ 210 → q ≠ 211 → q ≠ 212 → q ≠ 213 → m2 q = m1 q) : frx s6 [] m m2 := by
  intro q j hq hj
  rw [h q (by rintro rfl; exact hq (by decide)) (by rintro rfl; exact hq (by decide)) (by rintro rfl; exact hq (by decide)) (by rintro rfl; exact hq (by decide))]
  exact f q j hq hj
theorem jabs10 {x : Int} (h : -2 ≤ x) (h2 : x ≤ 2) {m : jM} {Q : Int → jM → Prop} (hQ : Q (10 * ab x) m) : ML iX11_plain [(0, 10 * x)] m Q := by
  unfold ab at hQ
  refine sX11_plain ⟨fun z => ?_, fun z => ?_⟩
  · rw [if_pos (by omega)] at hQ; exact hQ
  · rw [if_neg (by omega)] at hQ
    rw [jw_id (by omega) (by omega)]
    rw [show -(10 * x) = 10 * -x by omega]
    exact hQ
theorem c_shiftedG {V m : jM} {Q : Int → jM → Prop} {k : Int} (hf : vKf V) (hk : vKt V) (hG : rG V k m) (hA : aRr (flL V (V 0 2).toNat) m) (hQ : ∀ m', frx s6 [] m m' → (∀ s, 0 ≤ s → s < 3 → m' 214 s = 10 * pD (shN V 125).2.2 s) → Q (shN V 125).1 m') : GL iX11_shiftedFleet m 23 [(2, 139), (9, 0), (9, 0), (0, (-1)), (0, 0), (0, 1), (0, 0), (9, 0), (9, 0), (9, 0), (9, 0)] [] Q := by
  have hN := hk.1
  have tx : ∀ m1, frx s6 [] m m1 → (0 ≤ m1 139 69 ∧ m1 139 69 < 3 ∧ m1 154 (m1 139 69) = V 0 2) := by
    intro m1 f1
    have g1 := (s6_keep f1 hG hA).2.1
    have k0 := g1.2.2.2.2.1.1
    rw [g1.1.1, k0.2.2.2.2.1]
    exact ⟨k0.1, k0.2.1, rfl⟩
  -- the count of shifts
  have all : GL iX11_shiftedFleet m 52 [(2, 139), (9, 0), (9, 0), (0, (-1)), (0, 0), (0, p5 (V 0 2)), (0, 0), (9, 0), (9, 0), (9, 0), (9, 0)] [] Q → GL iX11_shiftedFleet m 23 [(2, 139), (9, 0), (9, 0), (0, (-1)), (0, 0), (0, 1), (0, 0), (9, 0), (9, 0), (9, 0), (9, 0)] [] Q := by
    intro go
    refine lup (n := V 0 2) (I := fun x6 (x5 : Int) => 0 ≤ x6 ∧ x6 ≤ V 0 2 ∧ x5 = p5 x6) (G := fun x6 x5 => GL iX11_shiftedFleet m 23 [(2, 139), (9, 0), (9, 0), (0, (-1)), (0, 0), (0, x5), (0, x6), (9, 0), (9, 0), (9, 0), (9, 0)] [] Q) ?_ ?_ 0 1 ⟨by decide, by omega, rfl⟩
    · rintro x6 x5 hx ⟨x0, -, rfl⟩ K
      have t := tx m frx_rf
      have p := dD_p5 (N := x6) x0 (by omega)
      have p' := p.2.2 (by omega)
      have b5 : p5 x6 ≤ 125 := by unfold p5; split <;> (try split) <;> (try split) <;> omega
      refine sX11_shiftedFleet_23 ?_
      rw [t.2.2, jw_id (x := x6 + 1) (by omega) (by omega), jw_id (x := p5 x6 * 5) (by omega) (by omega)]
      exact ⟨t.1, t.2.1, fun w => absurd w (by omega), fun _ => K _ ⟨by omega, by omega, p'.symm⟩⟩
    · rintro x6 x5 hx ⟨x0, x1, rfl⟩
      obtain rfl : x6 = V 0 2 := by omega
      have t := tx m frx_rf
      refine sX11_shiftedFleet_23 ?_
      rw [t.2.2]
      exact ⟨t.1, t.2.1, fun _ => go, fun w => absurd (Int.le_refl _) w⟩
  refine all ?_
  have P5 := dD_p5 (N := V 0 2) (by omega) (by omega)
  generalize hP5 : p5 (V 0 2) = A at *
  have A125 : A ≤ 125 := by rw [← hP5]; unfold p5; split <;> (try split) <;> (try split) <;> omega
  refine lup3 (n := A) (I := fun j m1 (best su : Int) => 0 ≤ j ∧ j ≤ A ∧ frx s6 [] m m1 ∧ best = (shN V (dD (V 0 2) * j).toNat).1 ∧ su = 10 * (shN V (dD (V 0 2) * j).toNat).2.1 ∧ (0 ≤ best → ∀ s, 0 ≤ s → s < 3 → m1 214 s = 10 * pD (shN V (dD (V 0 2) * j).toNat).2.2 s)) (G := fun j m1 best su => GL iX11_shiftedFleet m1 52 [(2, 139), (9, 0), (9, 0), (0, best), (0, su), (0, A), (0, j), (9, 0), (9, 0), (9, 0), (9, 0)] [] Q) ?_ ?_ 0 m (-1) 0 ⟨by decide, by omega, frx_rf, by rw [Int.mul_zero]; rfl, by rw [Int.mul_zero]; rfl, fun h => absurd h (by decide)⟩
  · rintro j m1 best su hj ⟨j0, -, f1, hb, hs, hp⟩ K
    obtain ⟨⟨d0, d1, d2, d3⟩, j125, dv, dg1, dg2, dd⟩ := dD_all (N := V 0 2) (k := j) (by omega) (by omega) j0 (by rw [hP5]; exact hj)
    have blk := shN_blk d0 d1 d2 dv dg1 dg2
    have sin := shN_in hf hk (dD (V 0 2) * j).toNat (by omega)
    generalize shN V (dD (V 0 2) * (j + 1)).toNat = new at *
    generalize shN V (dD (V 0 2) * j).toNat = old at *
    generalize dD (V 0 2) * j + dD (V 0 2) / 2 = i at *
    have pin : ∀ s, -2 ≤ pD i s ∧ pD i s ≤ 2 := fun s => pD_in (by omega) (by omega)
    have vb := nb_in hf hk (fun s => 10 * pD i s)
    have hnb : nb V (fun s => 10 * pD i s) = nbI V i := rfl
    rw [hnb] at vb
    have ab2 : ∀ s, 0 ≤ ab (pD i s) ∧ ab (pD i s) ≤ 2 := fun s => by have := pin s; unfold ab; split <;> omega
    refine sX11_shiftedFleet_52 ⟨fun w => absurd w (by omega), fun _ => ?_⟩
    refine ldn2 (I := fun s m2 (t : Int × Int) => s ≤ 2 ∧ -1 ≤ s ∧ frx s6 [] m m2 ∧ m2 214 = m1 214 ∧ (0 ≤ s → t.1 = (if s < V 0 2 then pE i s else j)) ∧ t.2 = 10 * sE i s ∧ ∀ x, s < x → x < 3 → m2 209 x = 10 * pD i x) (G := fun s m2 t => GL iX11_shiftedFleet m2 69 [(2, 139), (9, 0), (9, 0), (0, best), (0, su), (0, A), (0, j), (0, t.1), (0, t.2), (0, s), (9, 0)] [] Q) ?_ ?_ 2 m1 (j, 0) ⟨by decide, by decide, f1, rfl, fun _ => ?_, rfl, fun x x0 x1 => by omega⟩
    · rintro s m2 ⟨rest, sum⟩ s0 ⟨s2, -, f2, e214, hr, hsum, h209⟩ K2
      have hr : rest = (if s < V 0 2 then pE i s else j) := hr s0
      have hsum : sum = 10 * sE i s := hsum
      have t := tx m2 f2
      have ds := dd s s0 (by omega)
      have ps := pin s
      have sEs : sE i (s - 1) = sE i s + ab (pD i s) := by
        have : s = 0 ∨ s = 1 ∨ s = 2 := by omega
        unfold sE
        rcases this with rfl | rfl | rfl <;> simp
      have sEb : 0 ≤ sE i s ∧ sE i s ≤ 6 := by
        have a0 := ab2 0
        have a1 := ab2 1
        have a2 := ab2 2
        unfold sE
        split <;> split <;> split <;> omega
      have as := ab2 s
      refine sX11_shiftedFleet_69 ⟨fun w => absurd w (by omega), fun _ => ?_⟩
      rw [t.2.2, show s + (-1) = s - 1 by omega, jw_id (x := s - 1) (by omega) (by omega)]
      refine ⟨s0, by omega, t.1, t.2.1, fun hs1 => ⟨s0, by omega, s0, by omega, ?_⟩, fun hs1 => ?_⟩
      · rw [if_pos hs1] at hr
        have dq := dv_in (i := rest) (by omega) (by omega)
        have e := ds.2.1 hs1
        rw [← hr] at e
        rw [dq.2.2.1, dq.2.2.2, jw_id (x := rest % 5 - 2) (by omega) (by omega), ← e, jw_id (x := 10 * pD i s) (by omega) (by omega)]
        refine jabs10 ps.1 ps.2 ?_
        rw [jw_id (x := sum + 10 * ab (pD i s)) (by omega) (by omega)]
        refine K2 _ (rest / 5, sum + 10 * ab (pD i s)) ⟨by omega, by omega, s6_put (i := s) (x := 0) f2 (Or.inl rfl) (fun q hq => by rw [jup_ne hq, jup_ne hq]), by rw [jup_ne (by decide), jup_ne (by decide)]; exact e214, fun q => ?_, ?_, fun x x0 x1 => ?_⟩
        · show rest / 5 = _
          rw [if_pos (by omega), (ds.2.2.2.1 (by omega)), hr]
        · show sum + 10 * ab (pD i s) = _
          omega
        · rw [jup_self]
          by_cases ex : x = s
          · rw [if_pos ex, ex]
          · rw [if_neg ex, jup_self, if_neg ex]; exact h209 x (by omega) x1
      · rw [if_neg hs1] at hr
        have e := ds.1 (by omega)
        have a0 : ab (pD i s) = 0 := by rw [e]; rfl
        refine K2 _ (rest, sum) ⟨by omega, by omega, s6_put (i := s) (x := 0) f2 (Or.inl rfl) (fun q hq => by rw [jup_ne hq]), by rw [jup_ne (by decide)]; exact e214, fun q => ?_, ?_, fun x x0 x1 => ?_⟩
        · show rest = _
          by_cases w : s - 1 < V 0 2
          · rw [if_pos w, (dd (s - 1) q (by omega)).2.2.1 (by omega)]; exact hr
          · rw [if_neg w]; exact hr
        · show sum = _
          omega
        · rw [jup_self]
          by_cases ex : x = s
          · rw [if_pos ex, ex, e]; rfl
          · rw [if_neg ex]; exact h209 x (by omega) x1
    · rintro s m2 ⟨rest, sum⟩ s0 ⟨-, s1, f2, e214, -, hsum, h209⟩
      obtain rfl : s = -1 := by omega
      have hsum : sum = 10 * pSu i := by
        have : sum = 10 * sE i (-1) := hsum
        rw [this]
        unfold sE pSu
        simp
        omega
      have kk := s6_keep f2 hG hA
      refine sX11_shiftedFleet_69 ⟨fun _ => ?_, fun w => absurd (by decide) w⟩
      refine c_busesOf (P := fun s => 10 * pD i s) hf hk kk.2.1 kk.2.2 (fun s a b => ⟨h209 s (by omega) b, by have := pin s; omega, by have := pin s; omega⟩) (fun m3 f3 => ?_)
      have f3' : frx s6 [] m m3 := s6_bus f2 f3
      have e209 : ∀ s, 0 ≤ s → s < 3 → m3 209 s = 10 * pD i s := fun s a b => by rw [f3 209 (by decide) (by decide) (by decide) (by decide)]; exact h209 s (by omega) b
      have e214' : m3 214 = m1 214 := by rw [f3 214 (by decide) (by decide) (by decide) (by decide)]; exact e214
      rw [hnb, jw_id (x := j + 1) (by omega) (by omega)]
      show (best < 0 → GL iX11_shiftedFleet m3 184 [(2, 139), (9, 0), (9, 0), (0, nbI V i), (0, sum), (0, A), (0, j), (9, 0), (9, 0), (9, 0), (0, 0)] [] Q) ∧ _
      have take : (best < 0 ∨ nbI V i < best ∨ (nbI V i = best ∧ sum < su)) → GL iX11_shiftedFleet m3 184 [(2, 139), (9, 0), (9, 0), (0, nbI V i), (0, sum), (0, A), (0, j), (9, 0), (9, 0), (9, 0), (0, 0)] [] Q := by
        intro hc
        have hc' : old.1 < 0 ∨ nbI V i < old.1 ∨ (nbI V i = old.1 ∧ pSu i < old.2.1) := by omega
        rw [if_pos hc'] at blk
        refine lup (n := 3) (I := fun s m4 => 0 ≤ s ∧ s ≤ 3 ∧ frx s6 [] m m4 ∧ m4 209 = m3 209 ∧ ∀ x, 0 ≤ x → x < s → m4 214 x = 10 * pD i x) (G := fun s m4 => GL iX11_shiftedFleet m4 184 [(2, 139), (9, 0), (9, 0), (0, nbI V i), (0, sum), (0, A), (0, j), (9, 0), (9, 0), (9, 0), (0, s)] [] Q) ?_ ?_ 0 m3 ⟨by decide, by decide, f3', rfl, fun x x0 x1 => by omega⟩
        · rintro s m4 hs3 ⟨s0, -, f4, e4, h4⟩ K4
          refine sX11_shiftedFleet_184 ?_
          rw [e4, e209 s s0 hs3, jw_id (x := s + 1) (by omega) (by omega)]
          refine ⟨fun w => absurd w (by omega), fun _ => ⟨s0, hs3, s0, hs3, K4 _ ⟨by omega, by omega, s6_put (i := s) (x := 0) f4 (Or.inr rfl) (fun q hq => jup_ne hq), by rw [jup_ne (by decide)]; exact e4, fun x x0 x1 => ?_⟩⟩⟩
          rw [jup_self]
          by_cases ex : x = s
          · rw [if_pos ex, ex]
          · rw [if_neg ex]; exact h4 x x0 (by omega)
        · rintro s m4 hs3 ⟨s0, s1, f4, e4, h4⟩
          obtain rfl : s = 3 := by omega
          refine sX11_shiftedFleet_184 ⟨fun _ => ?_, fun w => absurd hs3 w⟩
          rw [jw_id (x := j + 1) (by omega) (by omega)]
          refine K m4 _ _ ⟨by omega, by omega, f4, ?_, ?_, ?_⟩
          · rw [blk]
          · rw [blk]; exact hsum
          · rw [blk]; exact fun _ => h4
      have leave : ¬ (best < 0 ∨ nbI V i < best ∨ (nbI V i = best ∧ sum < su)) → GL iX11_shiftedFleet m3 52 [(2, 139), (9, 0), (9, 0), (0, best), (0, su), (0, A), (0, j + 1), (9, 0), (9, 0), (9, 0), (9, 0)] [] Q := by
        intro hc
        have hc' : ¬ (old.1 < 0 ∨ nbI V i < old.1 ∨ (nbI V i = old.1 ∧ pSu i < old.2.1)) := by omega
        rw [if_neg hc'] at blk
        refine K m3 best su ⟨by omega, by omega, f3', by rw [blk]; exact hb, by rw [blk]; exact hs, ?_⟩
        rw [blk, e214']
        exact hp
      refine ⟨fun w => take (Or.inl w), fun w1 => ⟨fun w2 => leave (by omega), fun w2 => ⟨fun w3 => take (by omega), fun w3 => ⟨fun w4 => take (by omega), fun w4 => leave (by omega)⟩⟩⟩⟩
    · show j = _
      by_cases w : (2 : Int) < V 0 2
      · rw [if_pos w, (dd 2 (by decide) (by decide)).2.2.1 (by omega)]
      · rw [if_neg w]
  · rintro j m1 best su hj ⟨j0, j1, f1, hb, hs, hp⟩
    obtain rfl : j = A := by omega
    rw [P5.1] at hb hs hp
    refine sX11_shiftedFleet_52 ⟨fun _ => ?_, fun w => absurd (Int.le_refl _) w⟩
    have e := shN_end hf hk
    have hb : best = (shN V 125).1 := hb
    have := hQ m1 f1 (hp (by omega))
    rw [hb]
    exact this
