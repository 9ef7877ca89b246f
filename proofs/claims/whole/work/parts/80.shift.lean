/-! shifts of bells, as mathematics and in the class -/
def pD (i s : Int) : Int := if s = 0 then i / 25 - 2 else if s = 1 then i / 5 % 5 - 2 else i % 5 - 2
def vld (n i : Int) : Prop := (n ≤ 0 → pD i 0 = 0) ∧ (n ≤ 1 → pD i 1 = 0) ∧ (n ≤ 2 → pD i 2 = 0)
def ab (x : Int) : Int := if 0 ≤ x then x else -x
def pSu (i : Int) : Int := ab (pD i 0) + ab (pD i 1) + ab (pD i 2)
noncomputable def nbI (V : jM) (i : Int) : Int := nb V (fun s => 10 * pD i s)
/-- the best so far: its buses (-1: none yet), the sum of its steps, its number -/
noncomputable def shN (V : jM) : Nat → Int × Int × Int
  | 0 => (-1, 0, 0)
  | i + 1 => @ite _ (vld (V 0 2) i ∧ ((shN V i).1 < 0 ∨ nbI V i < (shN V i).1 ∨ (nbI V i = (shN V i).1 ∧ pSu i < (shN V i).2.1))) (Classical.propDecidable _) (nbI V i, pSu i, (i : Int)) (shN V i)
theorem pD_in {i s : Int} (i0 : 0 ≤ i) (i1 : i < 125) : -2 ≤ pD i s ∧ pD i s ≤ 2 := by
  unfold pD
  split
  · omega
  · split <;> omega
theorem shN_in {V : jM} (hf : vKf V) (hk : vKt V) : ∀ n : Nat, n ≤ 125 → ((shN V n).1 = -1 ∧ (shN V n).2.1 = 0) ∨ (0 ≤ (shN V n).1 ∧ (shN V n).1 ≤ 18 ∧ 0 ≤ (shN V n).2.1 ∧ (shN V n).2.1 ≤ 6 ∧ 0 ≤ (shN V n).2.2 ∧ (shN V n).2.2 < 125 ∧ (shN V n).1 = nbI V (shN V n).2.2) := by
  intro n
  induction n with
  | zero => intro _; exact Or.inl ⟨rfl, rfl⟩
  | succ n ih =>
    intro hn
    simp only [shN]
    split
    · right
      have b := nb_in hf hk (fun s => 10 * pD (n : Int) s)
      have p0 := pD_in (i := (n : Int)) (s := 0) (by omega) (by omega)
      have p1 := pD_in (i := (n : Int)) (s := 1) (by omega) (by omega)
      have p2 := pD_in (i := (n : Int)) (s := 2) (by omega) (by omega)
      refine ⟨b.1, b.2.1, ?_, ?_, by simp only; omega, by simp only; omega, rfl⟩
      · simp only; unfold pSu ab; (repeat' split) <;> omega
      · simp only; unfold pSu ab; (repeat' split) <;> omega
    · exact ih (by omega)
theorem shN_end {V : jM} (hf : vKf V) (hk : vKt V) : 0 ≤ (shN V 125).1 := by
  have key : ∀ d : Nat, d ≤ 62 → 0 ≤ (shN V (63 + d)).1 := by
    intro d
    induction d with
    | zero =>
      intro _
      have b := nb_in hf hk (fun s => 10 * pD (62 : Int) s)
      have hv : vld (V 0 2) ((62 : Nat) : Int) := by
        unfold vld pD
        omega
      have e : shN V (62 + 1) = @ite _ (vld (V 0 2) ((62 : Nat) : Int) ∧ ((shN V 62).1 < 0 ∨ nbI V ((62 : Nat) : Int) < (shN V 62).1 ∨ (nbI V ((62 : Nat) : Int) = (shN V 62).1 ∧ pSu ((62 : Nat) : Int) < (shN V 62).2.1))) (Classical.propDecidable _) (nbI V ((62 : Nat) : Int), pSu ((62 : Nat) : Int), ((62 : Nat) : Int)) (shN V 62) := rfl
      show 0 ≤ (shN V (62 + 1)).1
      rw [e]
      split
      · exact b.1
      · rename_i q
        apply Classical.byContradiction
        intro w
        exact q ⟨hv, Or.inl (by omega)⟩
    | succ d ih =>
      intro hd
      have ih := ih (by omega)
      show 0 ≤ (shN V (63 + d + 1)).1
      simp only [shN]
      split
      · have b := nb_in hf hk (fun s => 10 * pD ((63 + d : Nat) : Int) s)
        exact b.1
      · exact ih
  exact key 62 (by decide)
/-- what findShifts leaves -/
def flS (V : jM) (m : jM) : Prop := m 106 1 = (shN V 125).1 ∧ ∀ s, 0 ≤ s → s < 3 → m 107 s = 10 * pD (shN V 125).2.2 s
theorem dv125 : ∀ i : Fin 125, jdiv ((i : Nat) : Int) 25 = ((i : Nat) : Int) / 25 ∧ jrem (jdiv ((i : Nat) : Int) 5) 5 = ((i : Nat) : Int) / 5 % 5 ∧ jrem ((i : Nat) : Int) 5 = ((i : Nat) : Int) % 5 ∧ jdiv ((i : Nat) : Int) 5 = ((i : Nat) : Int) / 5 := by decide +kernel
theorem dv_in {i : Int} (i0 : 0 ≤ i) (i1 : i < 125) : jdiv i 25 = i / 25 ∧ jrem (jdiv i 5) 5 = i / 5 % 5 ∧ jrem i 5 = i % 5 ∧ jdiv i 5 = i / 5 := by
  have := dv125 ⟨i.toNat, by omega⟩
  simp only [Int.toNat_of_nonneg i0] at this
  exact this
theorem jabs_s {x : Int} (h : -10 ≤ x) (h2 : x ≤ 10) : jabs x = ab x := by
  unfold jabs ab
  split
  · rfl
  · rw [jw_id (by omega) (by omega)]; omega
theorem c_findShifts {V m : jM} {Q : Int → jM → Prop} (hf : vKf V) (hk : vKt V) (hD : flD V m) (hS : m 106 5 = 0 ∨ flS V m) (hQ : ∀ m', (∀ q, q ≠ 106 → q ≠ 107 → q ≠ 113 → q ≠ 115 → q ≠ 116 → q ≠ 117 → q ≠ 118 → q ≠ 119 → m' q = m q) → (∀ i, i ≠ 1 → i ≠ 5 → m' 106 i = m 106 i) → flS V m' → Q 0 m') : ML iX2_findShifts [(2, 106)] m Q := by
  have hN := hk.1
  refine sX2_findShifts ⟨fun z => ?_, fun z => hQ m (fun q _ _ _ _ _ _ _ _ => rfl) (fun i _ _ => rfl) (hS.resolve_left z)⟩
  have t := flT_in hf hk
  refine lup2 (n := 125) (I := fun i m1 su => 0 ≤ i ∧ i ≤ 125 ∧ (∀ q, q ≠ 106 → q ≠ 107 → q ≠ 113 → q ≠ 115 → q ≠ 116 → q ≠ 117 → q ≠ 118 → q ≠ 119 → m1 q = m q) ∧ (∀ i, i ≠ 1 → i ≠ 5 → m1 106 i = m 106 i) ∧ m1 106 1 = (if (shN V i.toNat).1 < 0 then 19 else (shN V i.toNat).1) ∧ su = (shN V i.toNat).2.1 ∧ (0 ≤ (shN V i.toNat).1 → ∀ s, 0 ≤ s → s < 3 → m1 107 s = 10 * pD (shN V i.toNat).2.2 s)) (G := fun i m1 su => GL iX2_findShifts m1 23 [(2, 106), (0, su), (0, i), (9, 0), (9, 0)] [] Q) ?_ ?_ 0 _ 0 ⟨by decide, by decide, fun q a b c d e f g h => by rw [jup_ne a, jup_ne a], fun i i1 i5 => by rw [jup_self, if_neg i1, jup_self, if_neg i5], by rw [jup_s]; rfl, rfl, fun h => absurd h (by show ¬ (0 : Int) ≤ -1; decide)⟩
  · rintro i m1 su hi ⟨i0, -, f1, g1, e1, e2, e3⟩ K
    have dv := dv_in i0 hi
    have bn := shN_in hf hk i.toNat (by omega)
    have vb := nb_in hf hk (fun s => 10 * pD i s)
    have p0 := pD_in (i := i) (s := 0) i0 hi
    have p1 := pD_in (i := i) (s := 1) i0 hi
    have p2 := pD_in (i := i) (s := 2) i0 hi
    have nx : shN V (i + 1).toNat = @ite _ (vld (V 0 2) i ∧ ((shN V i.toNat).1 < 0 ∨ nbI V i < (shN V i.toNat).1 ∨ (nbI V i = (shN V i.toNat).1 ∧ pSu i < (shN V i.toNat).2.1))) (Classical.propDecidable _) (nbI V i, pSu i, i) (shN V i.toNat) := by
      rw [show (i + 1).toNat = i.toNat + 1 by omega]
      simp only [shN]
      rw [Int.toNat_of_nonneg i0]
    refine sX2_findShifts_23 ⟨fun z => absurd z (by omega), fun _ => sX2_putBells ?_⟩
    rw [dv.1, dv.2.1, dv.2.2.1, jw_id (x := i / 25 - 2) (by omega) (by omega), jw_id (x := i / 5 % 5 - 2) (by omega) (by omega), jw_id (x := i % 5 - 2) (by omega) (by omega)]
    generalize hm2 : jup (jup (jup m1 113 0 (i / 25 - 2)) 113 1 (i / 5 % 5 - 2)) 113 2 (i % 5 - 2) = m2
    have o2 : ∀ q, q ≠ 113 → m2 q = m1 q := fun q hq => by rw [← hm2, jup_ne hq, jup_ne hq, jup_ne hq]
    have v2 : ∀ s, 0 ≤ s → s < 3 → m2 113 s = pD i s := by
      intro s s0 s1
      have : s = 0 ∨ s = 1 ∨ s = 2 := by omega
      rcases this with rfl | rfl | rfl
      · rw [← hm2]; rfl
      · rw [← hm2]; rfl
      · rw [← hm2]; rfl
    have e106 : ∀ j, m2 106 j = m1 106 j := fun j => by rw [o2 106 (by decide)]
    have e4 : m2 106 4 = V 0 2 := by rw [e106, g1 4 (by decide) (by decide)]; exact hD.2.1
    rw [jw_id (x := i + 1) (by omega) (by omega), v2 0 (by decide) (by decide), v2 1 (by decide) (by decide), v2 2 (by decide) (by decide), jabs_s (x := pD i 0) (by omega) (by omega), jabs_s (x := pD i 1) (by omega) (by omega), jabs_s (x := pD i 2) (by omega) (by omega)]
    have psu : 0 ≤ pSu i ∧ pSu i ≤ 6 ∧ jw (jw (ab (pD i 0) + ab (pD i 1)) + ab (pD i 2)) = pSu i := by
      have a0 : 0 ≤ ab (pD i 0) ∧ ab (pD i 0) ≤ 2 := by unfold ab; split <;> omega
      have a1 : 0 ≤ ab (pD i 1) ∧ ab (pD i 1) ≤ 2 := by unfold ab; split <;> omega
      have a2 : 0 ≤ ab (pD i 2) ∧ ab (pD i 2) ≤ 2 := by unfold ab; split <;> omega
      unfold pSu
      rw [jw_id (x := ab (pD i 0) + ab (pD i 1)) (by omega) (by omega), jw_id (by omega) (by omega)]
      exact ⟨by omega, by omega, rfl⟩
    rw [psu.2.2]
    have f2 : ∀ q, q ≠ 106 → q ≠ 107 → q ≠ 113 → q ≠ 115 → q ≠ 116 → q ≠ 117 → q ≠ 118 → q ≠ 119 → m2 q = m q := fun q a b c d e f g h => by rw [o2 q c]; exact f1 q a b c d e f g h
    have g2 : ∀ j, j ≠ 1 → j ≠ 5 → m2 106 j = m 106 j := fun j h1 h5 => by rw [e106]; exact g1 j h1 h5
    have x1 : m2 106 1 = (if (shN V i.toNat).1 < 0 then 19 else (shN V i.toNat).1) := by rw [e106]; exact e1
    have x3 : 0 ≤ (shN V i.toNat).1 → ∀ s, 0 ≤ s → s < 3 → m2 107 s = 10 * pD (shN V i.toNat).2.2 s := fun h => by rw [o2 107 (by decide)]; exact e3 h
    -- nothing better here
    have skip : ∀ m3, (∀ q, q ≠ 106 → q ≠ 107 → q ≠ 113 → q ≠ 115 → q ≠ 116 → q ≠ 117 → q ≠ 118 → q ≠ 119 → m3 q = m q) → (∀ j, m3 106 j = m2 106 j) → m3 107 = m2 107 → ¬ (vld (V 0 2) i ∧ ((shN V i.toNat).1 < 0 ∨ nbI V i < (shN V i.toNat).1 ∨ (nbI V i = (shN V i.toNat).1 ∧ pSu i < (shN V i.toNat).2.1))) → GL iX2_findShifts m3 23 [(2, 106), (0, su), (0, i + 1), (9, 0), (9, 0)] [] Q := by
      intro m3 f3 h106 h107 hn
      refine K m3 su ⟨by omega, by omega, f3, fun j h1 h5 => by rw [h106]; exact g2 j h1 h5, ?_, ?_, ?_⟩
      · rw [nx, if_neg hn, h106]; exact x1
      · rw [nx, if_neg hn]; exact e2
      · rw [nx, if_neg hn, h107]; exact x3
    have test : ∀ r : Int, (vld (V 0 2) i → r = 1) → (¬ vld (V 0 2) i → r = 0) → ((r = 0 → GL iX2_findShifts m2 23 [(2, 106), (0, su), (0, i + 1), (9, 0), (9, 0)] [] Q) ∧ (¬ (r = 0) → ((pSu i < su → GL iX2_findShifts m2 84 [(2, 106), (0, su), (0, i), (0, pSu i), (9, 0)] [] Q) ∧ (¬ (pSu i < su) → ((m2 106 1 ≤ 1 → GL iX2_findShifts m2 23 [(2, 106), (0, su), (0, i + 1), (9, 0), (9, 0)] [] Q) ∧ (¬ (m2 106 1 ≤ 1) → GL iX2_findShifts m2 84 [(2, 106), (0, su), (0, i), (0, pSu i), (9, 0)] [] Q)))))) := by
      intro r r1 r0
      have count : vld (V 0 2) i → GL iX2_findShifts m2 84 [(2, 106), (0, su), (0, i), (0, pSu i), (9, 0)] [] Q := by
        intro hv
        have D2 : flD V m2 := flD_fr hD (by rw [g2 3 (by decide) (by decide)]) (by rw [g2 4 (by decide) (by decide)]) (f2 108 (by decide) (by decide) (by decide) (by decide) (by decide) (by decide) (by decide) (by decide)) (f2 114 (by decide) (by decide) (by decide) (by decide) (by decide) (by decide) (by decide) (by decide))
        refine sX2_findShifts_84 (c_fewestBuses (p := fun s => pD i s) hf hk D2 (fun s s0 s1 => ⟨v2 s s0 s1, pD_in i0 hi⟩) (fun m3 f3 => ?_))
        have e1' : m3 106 = m2 106 := f3 106 (by decide) (by decide) (by decide) (by decide) (by decide)
        have f3' : ∀ q, q ≠ 106 → q ≠ 107 → q ≠ 113 → q ≠ 115 → q ≠ 116 → q ≠ 117 → q ≠ 118 → q ≠ 119 → m3 q = m q := fun q a b c d e f g h => by rw [f3 q d e f g h]; exact f2 q a b c d e f g h
        have e107 : m3 107 = m2 107 := f3 107 (by decide) (by decide) (by decide) (by decide) (by decide)
        have e113 : m3 113 = m2 113 := f3 113 (by decide) (by decide) (by decide) (by decide) (by decide)
        rw [e1', x1, jw_id (x := i + 1) (by omega) (by omega)]
        have hnb : nb V (fun s => 10 * pD i s) = nbI V i := rfl
        rw [hnb] at vb ⊢
        have take : ((shN V i.toNat).1 < 0 ∨ nbI V i < (shN V i.toNat).1 ∨ (nbI V i = (shN V i.toNat).1 ∧ pSu i < (shN V i.toNat).2.1)) → ML iX2_keepPuts [(2, 106)] (jup m3 106 1 (nbI V i)) (fun _ m9 => GL iX2_findShifts m9 23 [(2, 106), (0, pSu i), (0, i + 1), (9, 0), (9, 0)] [] Q) := by
          intro hb
          refine sX2_keepPuts ?_
          refine lup (n := 3) (I := fun s m4 => 0 ≤ s ∧ s ≤ 3 ∧ (∀ q, q ≠ 107 → m4 q = jup m3 106 1 (nbI V i) q) ∧ ∀ x, 0 ≤ x → x < s → m4 107 x = 10 * pD i x) (G := fun s m4 => GL iX2_keepPuts m4 2 [(2, 106), (0, s)] [] (fun _ m9 => GL iX2_findShifts m9 23 [(2, 106), (0, pSu i), (0, i + 1), (9, 0), (9, 0)] [] Q)) ?_ ?_ 0 _ ⟨by decide, by decide, fun q _ => rfl, fun x x0 x1 => by omega⟩
          · rintro s m4 hs ⟨s0, -, f4, h4⟩ K2
            have e5 : m4 113 s = pD i s := by rw [f4 113 (by decide), jup_ne (by decide), e113]; exact v2 s s0 hs
            have pb := pD_in (i := i) (s := s) i0 hi
            refine sX2_keepPuts_2 ?_
            rw [e5, jw_id (x := s + 1) (by omega) (by omega), jw_id (x := pD i s * 10) (by omega) (by omega)]
            refine ⟨fun w => absurd w (by omega), fun _ => ⟨s0, hs, s0, hs, K2 _ ⟨by omega, by omega, fun q hq => by rw [jup_ne hq]; exact f4 q hq, fun x x0 x1 => ?_⟩⟩⟩
            rw [jup_self]
            by_cases e : x = s
            · rw [if_pos e, e, Int.mul_comm]
            · rw [if_neg e]; exact h4 x x0 (by omega)
          · rintro s m4 hs ⟨s0, s1, f4, h4⟩
            obtain rfl : s = 3 := by omega
            refine sX2_keepPuts_2 ⟨fun _ => ?_, fun w => absurd hs w⟩
            have ex := nx
            rw [if_pos ⟨hv, hb⟩] at ex
            refine K m4 _ ⟨by omega, by omega, fun q a b c d e f g h => by rw [f4 q b, jup_ne a]; exact f3' q a b c d e f g h, fun j h1 h5 => ?_, ?_, ?_, ?_⟩
            · rw [f4 106 (by decide), jup_self, if_neg h1, e1']; exact g2 j h1 h5
            · rw [f4 106 (by decide), jup_s, ex, if_neg (show ¬ nbI V i < 0 by omega)]
            · rw [ex]
            · rw [ex]; exact fun _ => h4
        have no : ¬ ((shN V i.toNat).1 < 0 ∨ nbI V i < (shN V i.toNat).1 ∨ (nbI V i = (shN V i.toNat).1 ∧ pSu i < (shN V i.toNat).2.1)) → GL iX2_findShifts m3 23 [(2, 106), (0, su), (0, i + 1), (9, 0), (9, 0)] [] Q := fun hn => skip m3 f3' (fun j => by rw [e1']) e107 (fun u => hn u.2)
        refine ⟨fun w => take ?_, fun w => ⟨fun w2 => no ?_, fun w2 => ⟨fun w3 => no ?_, fun w3 => take ?_⟩⟩⟩
        · split at w
          · left; assumption
          · right; left; exact w
        · split at w <;> split at w2 <;> omega
        · split at w <;> split at w2 <;> omega
        · split at w <;> split at w2 <;> omega
      refine ⟨fun w => skip m2 f2 (fun _ => rfl) rfl (fun u => by have := r1 u.1; omega), fun w => ?_⟩
      have hv : vld (V 0 2) i := Classical.byContradiction (fun u => w (r0 u))
      refine ⟨fun _ => count hv, fun w2 => ⟨fun w3 => skip m2 f2 (fun _ => rfl) rfl (fun u => ?_), fun _ => count hv⟩⟩
      rw [x1] at w3
      have hnb : nb V (fun s => 10 * pD i s) = nbI V i := rfl
      rw [hnb] at vb
      rcases bn with ⟨b1, -⟩ | ⟨b1, b2, b3, b4, b5, b6, b7⟩
      · rw [if_pos (by omega)] at w3; omega
      · rw [if_neg (by omega)] at w3
        have vb' := nb_in hf hk (fun s => 10 * pD (shN V i.toNat).2.2 s)
        have hnb' : nb V (fun s => 10 * pD (shN V i.toNat).2.2 s) = nbI V (shN V i.toNat).2.2 := rfl
        rw [hnb'] at vb'
        by_cases hT : flT V = 0
        · have h1 := vb.2.2.2 hT
          have h2 := vb'.2.2.2 hT
          omega
        · have h1 := vb.2.2.1 (by omega)
          omega
    refine sX2_putsExistingAlone ?_
    rw [e4]
    -- the shifts of schools that there are not
    refine lup (n := 3) (I := fun s (m3 : jM) => V 0 2 ≤ s ∧ s ≤ 3 ∧ m3 = m2 ∧ ∀ x, V 0 2 ≤ x → x < s → pD i x = 0) (G := fun s m3 => GL iX2_putsExistingAlone m3 5 [(2, 106), (0, s)] [] _) ?_ ?_ (V 0 2) m2 ⟨Int.le_refl _, by omega, rfl, fun x x0 x1 => by omega⟩
    · rintro s m3 hs ⟨s0, -, rfl, h3⟩ K3
      refine sX2_putsExistingAlone_5 ?_
      rw [v2 s (by omega) hs, jw_id (x := s + 1) (by omega) (by omega)]
      refine ⟨fun w => absurd w (by omega), fun _ => ⟨by omega, hs, fun w => K3 m3 ⟨by omega, by omega, rfl, fun x x0 x1 => ?_⟩, fun w => test 0 (fun hv => absurd ?_ w) (fun _ => rfl)⟩⟩
      · by_cases e : x = s
        · rw [e]; exact w
        · exact h3 x x0 (by omega)
      · unfold vld at hv
        have : s = 0 ∨ s = 1 ∨ s = 2 := by omega
        rcases this with rfl | rfl | rfl
        · exact hv.1 (by omega)
        · exact hv.2.1 (by omega)
        · exact hv.2.2 (by omega)
    · rintro s m3 hs ⟨s0, s1, rfl, h3⟩
      obtain rfl : s = 3 := by omega
      refine sX2_putsExistingAlone_5 ⟨fun _ => test 1 (fun _ => rfl) (fun hn => absurd ⟨fun u => h3 0 u (by decide), fun u => h3 1 u (by decide), fun u => h3 2 u (by decide)⟩ hn), fun w => absurd hs w⟩
  · rintro i m1 su hi ⟨i0, i1, f1, g1, e1, e2, e3⟩
    obtain rfl : i = 125 := by omega
    have he := shN_end hf hk
    refine sX2_findShifts_23 ⟨fun _ => hQ m1 f1 g1 ⟨?_, fun s s0 s1 => e3 he s s0 s1⟩, fun w => absurd hi w⟩
    have e1 : m1 106 1 = (if (shN V 125).1 < 0 then 19 else (shN V 125).1) := e1
    rw [e1, if_neg (by omega)]
