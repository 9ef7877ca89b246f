/-! the reference's riders -/
theorem c_isKnownV {V m : jM} {Q : Int → jM → Prop} {c : Int} (hf : vKf V) (hr : vRf V m) (c0 : 0 ≤ c) (c1 : c < m 139 50) (hno : V 0 7 ≤ c → Q 0 m) (hQ : c < V 0 7 → Q 1 m) : ML iX11_isKnownChild [(2, 139), (0, c), (0, V 0 6)] m Q := by
  have t := hr.1
  refine sX11_isKnownChild (sX11_isChild ⟨fun z => absurd c0 (by omega), fun _ => ⟨fun z => absurd c1 (by omega), fun _ => ⟨fun z => absurd z (by decide), fun _ => ⟨c0, by omega, fun z => ?_, fun z => ?_⟩⟩⟩⟩)
  · by_cases h : c < V 0 7
    · have := hr.2.2.1 c c0 h
      have := hf.2.2 c c0 h
      omega
    · exact hno (by omega)
  · by_cases h : c < V 0 7
    · exact hQ h
    · have := hr.2.2.2 c (by omega) c1
      omega
/-- the rows of riders as they must be -/
def rSt (V : jM) (s : Int) (m : jM) : Prop := m 139 75 = s ∧ (∀ p, 0 ≤ p → p < 6 → (0 ≤ m 195 p ∧ m 195 p < 1048576) ∧ m 196 p = stN V s p ∧ ∀ c, 0 ≤ c → c < 20 → (tb (m 195 p) c = true ↔ rid V s p c)) ∧ ∀ a, 0 ≤ a → a < 20 → (0 ≤ m 201 a ∧ m 201 a < 1048576) ∧ ∀ b, 0 ≤ b → b < 20 → (tb (m 201 a) b = true ↔ pAp V (V 0 6) a b)
theorem or20 {x c : Int} (x0 : 0 ≤ x) (x1 : x < 1048576) (c0 : 0 ≤ c) (c1 : c < 20) : (0 ≤ jor x (jshl 1 c) ∧ jor x (jshl 1 c) < 1048576) ∧ ∀ i, 0 ≤ i → i < 20 → (tb (jor x (jshl 1 c)) i = true ↔ tb x i = true ∨ i = c) := by
  have s1 := jshl1_in (k := c) c0 (by omega)
  have s2 : jshl 1 c < 1048576 := by
    rw [jshl1 c c0 (by omega)]
    have : (2 : Int) ^ c.toNat ≤ 2 ^ 19 := p2le (by omega)
    omega
  refine ⟨⟨jor_nn (by omega) (by omega), jor_lt (k := 20) ⟨x0, x1⟩ ⟨by omega, s2⟩ (by decide)⟩, fun i i0 i1 => ?_⟩
  rw [tb_or (by omega) (by omega) i0 (by omega), tb_shl1 c0 (by omega) i0, Bool.or_eq_true, decide_eq_true_iff]
theorem c_riders {V m : jM} {Q : Int → jM → Prop} {k s : Int} (hf : vKf V) (ht : vKt V) (hd : vKd V) (hG : rG V k m) (hQ : ∀ m', frx [195, 196, 201, 192, 193] [(139, 75)] m m' → rG V k m' → rSt V s m' → Q 0 m') : ML iX11_riders [(2, 139), (0, s), (0, V 0 5), (0, V 0 6)] m Q := by
  have tk := hf.1
  have rr := hG.2.2.2.1.1
  have kt := ht.1
  have gfr : ∀ m', frx [195, 196, 201, 192, 193] [(139, 75)] m m' → rG V k m' := fun m' f => rG_fr hG (f 139 69 (by decide) (by decide)) (f 139 12 (by decide) (by decide)) (f 139 44 (by decide) (by decide)) (f 139 50 (by decide) (by decide)) (agr_of f (by decide))
  refine sX11_riders ?_
  refine lup (n := 6) (I := fun i m1 => 0 ≤ i ∧ i ≤ 6 ∧ frx [195, 196, 201, 192, 193] [(139, 75)] m m1 ∧ m1 139 75 = s ∧ ∀ p, 0 ≤ p → p < i → m1 195 p = 0 ∧ m1 196 p = 0) (G := fun i m1 => GL iX11_riders m1 8 [(2, 139), (0, s), (0, V 0 5), (0, V 0 6), (0, i), (9, 0)] [] Q) ?_ ?_ 0 _ ⟨by decide, by decide, frx_upF frx_rf (by decide), jup_s, fun p p0 p1 => by omega⟩
  · rintro i m1 hi ⟨i0, -, f1, e1, z1⟩ K
    refine sX11_riders_8 ⟨fun z => absurd z (by omega), fun _ => ⟨i0, hi, i0, hi, ?_⟩⟩
    rw [jw_id (x := i + 1) (by omega) (by omega)]
    refine K _ ⟨by omega, by omega, frx_upA (frx_upA f1 (by decide)) (by decide), e1, fun p p0 p1 => ?_⟩
    rw [jup_ne (by decide), jup_self, jup_self]
    by_cases e : p = i
    · rw [if_pos e, if_pos e]; exact ⟨rfl, rfl⟩
    · rw [if_neg e, if_neg e, jup_ne (by decide)]; exact z1 p p0 (by omega)
  · rintro i m1 hi ⟨i0, i1, f1, e1, z1⟩
    obtain rfl : i = 6 := by omega
    refine sX11_riders_8 ⟨fun _ => ?_, fun z => absurd hi z⟩
    refine lup (n := m 139 50) (I := fun c m2 => 0 ≤ c ∧ c ≤ m 139 50 ∧ frx [195, 196, 201, 192, 193] [(139, 75)] m m2 ∧ m2 139 75 = s ∧ ∀ p, 0 ≤ p → p < 6 → (0 ≤ m2 195 p ∧ m2 195 p < 1048576) ∧ m2 196 p = sumN (stF V s p) (min c (V 0 7)).toNat ∧ ∀ x, 0 ≤ x → x < 20 → (tb (m2 195 p) x = true ↔ x < c ∧ rid V s p x)) (G := fun c m2 => GL iX11_riders m2 40 [(2, 139), (0, s), (0, V 0 5), (0, V 0 6), (0, c), (9, 0)] [] Q) ?_ ?_ 0 m1 ⟨by decide, by omega, f1, e1, fun p p0 p1 => ?_⟩
    · rintro c m2 hc ⟨c0, -, f2, e2, h2⟩ K
      have g2 := gfr m2 f2
      have ec : m2 139 50 = m 139 50 := f2 139 50 (by decide) (by decide)
      refine sX11_riders_40 ?_
      rw [ec, jw_id (x := c + 1) (by omega) (by omega)]
      refine ⟨fun z => absurd z (by omega), fun _ => c_isKnownV hf g2.2.2.2.1 c0 (by omega) (fun hn => ⟨fun _ => K m2 ⟨by omega, by omega, f2, e2, fun p p0 p1 => ?_⟩, fun z => absurd rfl z⟩) (fun hkn => ⟨fun z => absurd z (by decide), fun _ => ?_⟩)⟩
      · have q := h2 p p0 p1
        refine ⟨q.1, ?_, fun x x0 x1 => ?_⟩
        · rw [q.2.1, show min (c + 1) (V 0 7) = min c (V 0 7) by omega]
        · rw [q.2.2 x x0 x1]
          constructor
          · intro z; exact ⟨by omega, z.2⟩
          · intro z; exact ⟨by have := z.2.2.1; omega, z.2⟩
      · have fc := hf.2.2 c c0 hkn
        have efc := g2.2.2.2.1.2.2.1 c c0 hkn
        have eff := g2.2.2.2.1.2.1 _ fc.1 fc.2.1
        have nm : (min (c + 1) (V 0 7)).toNat = (min c (V 0 7)).toNat + 1 := by omega
        have cm : (((min c (V 0 7)).toNat : Nat) : Int) = c := by omega
        have sN : ∀ p, sumN (stF V s p) (min (c + 1) (V 0 7)).toNat = sumN (stF V s p) (min c (V 0 7)).toNat + stF V s p c := by
          intro p
          rw [nm]
          simp only [sumN]
          rw [cm]
        -- the child rides at no stop of the school
        have skip : ∀ m3, frx [195, 196, 201, 192, 193] [(139, 75)] m m3 → m3 139 75 = s → m3 195 = m2 195 → m3 196 = m2 196 → (∀ p, 0 ≤ p → ¬ rid V s p c) → GL iX11_riders m3 40 [(2, 139), (0, s), (0, V 0 5), (0, V 0 6), (0, c + 1), (9, 0)] [] Q := by
          intro m3 f3 e3 r1 r2 hno
          refine K m3 ⟨by omega, by omega, f3, e3, fun p p0 p1 => ?_⟩
          have q := h2 p p0 p1
          have hz : stF V s p c = 0 := by
            unfold stF
            rw [if_neg (fun y => hno p p0 ⟨c0, hkn, y.1, y.2⟩)]
          rw [r1, r2, sN, hz]
          refine ⟨q.1, by rw [q.2.1]; omega, fun x x0 x1 => ?_⟩
          rw [q.2.2 x x0 x1]
          constructor
          · intro z; exact ⟨by omega, z.2⟩
          · intro z
            refine ⟨?_, z.2⟩
            have : x ≠ c := by intro y; rw [y] at z; exact hno p p0 z.2
            omega
        rw [efc, eff.2.2.1]
        refine ⟨c0, by omega, fc.1, by omega, fun z => ?_, fun z => skip m2 f2 e2 rfl rfl (fun p _ y => z y.2.2.1)⟩
        refine c_stopOfR hf ht hd (rG_lI g2) g2.2.2.2.1 g2.2.2.2.2.1 g2.2.2.2.2.2 c0 hkn (fun m3 f3 => ?_)
        have f3' : frx [195, 196, 201, 192, 193] [(139, 75)] m m3 := frx_tr f2 (frx_mono (frx_fr (K := []) f3) (by decide) (by decide))
        have e3 : m3 139 75 = s := by rw [f3 139 (by decide)]; exact e2
        have st := vStp_in ht c
        refine ⟨fun y => ?_, fun y => skip m3 f3' e3 (f3 195 (by decide)) (f3 196 (by decide)) (fun p p0 q => ?_)⟩
        · have hst : vStp V c ≠ -1 := by
            intro q
            rw [if_pos q] at y
            exact absurd y (by decide)
          rw [if_neg hst, f3 179 (by decide), f3 178 (by decide), f3 195 (by decide), f3 196 (by decide), efc, eff.2.2.2.2]
          have h0 := h2 (vStp V c) (by omega) (by omega)
          have hs := stF V s (vStp V c) c
          have o := or20 h0.1.1 h0.1.2 c0 (show c < 20 by omega)
          have hsum := sumN_ge (f := stF V s (vStp V c)) (L := 0) (min c (V 0 7)).toNat (fun i _ _ => by unfold stF; split <;> (try split) <;> omega)
          have hsum2 := sumN_le (f := stF V s (vStp V c)) (L := 2) (min c (V 0 7)).toNat (fun i _ _ => by unfold stF; split <;> (try split) <;> omega)
          have put : ∀ w, w = stF V s (vStp V c) c → GL iX11_riders (jup (jup m3 195 (vStp V c) (jor (m2 195 (vStp V c)) (jshl 1 c))) 196 (vStp V c) (m2 196 (vStp V c) + w)) 40 [(2, 139), (0, s), (0, V 0 5), (0, V 0 6), (0, c + 1), (9, 0)] [] Q := by
            rintro w rfl
            refine K _ ⟨by omega, by omega, frx_upA (frx_upA f3' (by decide)) (by decide), e3, fun p p0 p1 => ?_⟩
            have q := h2 p p0 p1
            rw [jup_ne (by decide), jup_self, jup_self, sN]
            by_cases e : p = vStp V c
            · rw [if_pos e, if_pos e, e]
              refine ⟨o.1, by rw [h0.2.1], fun x x0 x1 => ?_⟩
              rw [o.2 x x0 x1, h0.2.2 x x0 x1]
              constructor
              · rintro (w | w)
                · exact ⟨by omega, w.2⟩
                · rw [w]; exact ⟨by omega, c0, hkn, z, rfl⟩
              · intro w
                by_cases e2 : x = c
                · exact Or.inr e2
                · exact Or.inl ⟨by omega, w.2⟩
            · have hz : stF V s p c = 0 := by
                unfold stF
                rw [if_neg (fun y => e y.2.symm)]
              rw [if_neg e, if_neg e, jup_ne (by decide), f3 195 (by decide), f3 196 (by decide), hz]
              refine ⟨q.1, by rw [q.2.1]; omega, fun x x0 x1 => ?_⟩
              rw [q.2.2 x x0 x1]
              constructor
              · intro w; exact ⟨by omega, w.2⟩
              · intro w
                refine ⟨?_, w.2⟩
                have : x ≠ c := by intro y; rw [y] at w; exact e w.2.2.2.2.symm
                omega
          have hw1 : jand (V 14 (V 15 c)) 2 = 0 → (1 : Int) = stF V s (vStp V c) c := fun w => by unfold stF; rw [if_pos ⟨z, rfl⟩, if_pos w]
          have hw2 : ¬ jand (V 14 (V 15 c)) 2 = 0 → (2 : Int) = stF V s (vStp V c) c := fun w => by unfold stF; rw [if_pos ⟨z, rfl⟩, if_neg w]
          rw [jw_id (x := m2 196 (vStp V c) + 1) (by omega) (by omega), jw_id (x := m2 196 (vStp V c) + 2) (by omega) (by omega)]
          exact ⟨by omega, by omega, by omega, by omega, by omega, by omega, c0, by omega, fc.1, by omega, fun w => ⟨by omega, by omega, put 1 (hw1 w)⟩, fun w => ⟨by omega, by omega, put 2 (hw2 w)⟩⟩
        · have : vStp V c = -1 := by
            apply Classical.byContradiction
            intro w
            rw [if_neg w] at y
            omega
          have := q.2.2.2
          omega
    · rintro c m2 hc ⟨c0, c1, f2, e2, h2⟩
      obtain rfl : c = m 139 50 := by omega
      have ec : m2 139 50 = m 139 50 := f2 139 50 (by decide) (by decide)
      refine sX11_riders_40 ⟨fun _ => ?_, fun z => absurd (by omega) z⟩
      have h2' : ∀ p, 0 ≤ p → p < 6 → (0 ≤ m2 195 p ∧ m2 195 p < 1048576) ∧ m2 196 p = stN V s p ∧ ∀ x, 0 ≤ x → x < 20 → (tb (m2 195 p) x = true ↔ rid V s p x) := by
        intro p p0 p1
        have q := h2 p p0 p1
        refine ⟨q.1, ?_, fun x x0 x1 => ?_⟩
        · rw [q.2.1, show min (m 139 50) (V 0 7) = V 0 7 by omega]; rfl
        · rw [q.2.2 x x0 x1]
          exact ⟨fun z => z.2, fun z => ⟨by have := z.2.1; omega, z⟩⟩
      refine lup (n := 20) (I := fun a m3 => 0 ≤ a ∧ a ≤ 20 ∧ frx [201] [] m2 m3 ∧ ∀ x, 0 ≤ x → x < a → m3 201 x = 0) (G := fun a m3 => GL iX11_riders m3 151 [(2, 139), (9, 0), (9, 0), (0, V 0 6), (0, a), (9, 0)] [] Q) ?_ ?_ 0 m2 ⟨by decide, by decide, frx_rf, fun x x0 x1 => by omega⟩
      · rintro a m3 ha ⟨a0, -, f3, z3⟩ K
        refine sX11_riders_151 ⟨fun z => absurd z (by omega), fun _ => ⟨a0, ha, ?_⟩⟩
        rw [jw_id (x := a + 1) (by omega) (by omega)]
        refine K _ ⟨by omega, by omega, frx_upA f3 (by decide), fun x x0 x1 => ?_⟩
        rw [jup_self]
        split
        · rfl
        · exact z3 x x0 (by omega)
      · rintro a m3 ha ⟨a0, a1, f3, z3⟩
        obtain rfl : a = 20 := by omega
        refine sX11_riders_151 ⟨fun _ => ?_, fun z => absurd ha z⟩
        refine lup (n := V 0 6) (I := fun f m4 => 0 ≤ f ∧ f ≤ V 0 6 ∧ frx [201] [] m2 m4 ∧ ∀ x, 0 ≤ x → x < 20 → (0 ≤ m4 201 x ∧ m4 201 x < 1048576) ∧ ∀ y, 0 ≤ y → y < 20 → (tb (m4 201 x) y = true ↔ pAp V f x y)) (G := fun f m4 => GL iX11_riders m4 175 [(2, 139), (9, 0), (9, 0), (0, V 0 6), (0, f), (9, 0)] [] Q) ?_ ?_ 0 m3 ⟨by decide, by omega, f3, fun x x0 x1 => ?_⟩
        · rintro f m4 hfl ⟨f0, -, f4, h4⟩ K
          have f4' : frx [195, 196, 201, 192, 193] [(139, 75)] m m4 := frx_tr f2 (frx_mono f4 (by decide) (by decide))
          have g4 := gfr m4 f4'
          have ef := g4.2.2.2.1.2.1 f f0 hfl
          have kf := (hf.2.1 f f0 hfl).1
          unfold fcVal at kf
          have same : (¬ (V 10 f = 4 ∧ vLv V f)) → GL iX11_riders m4 175 [(2, 139), (9, 0), (9, 0), (0, V 0 6), (0, f + 1), (9, 0)] [] Q := by
            intro hno
            refine K m4 ⟨by omega, by omega, f4, fun x x0 x1 => ⟨(h4 x x0 x1).1, fun y y0 y1 => ?_⟩⟩
            rw [(h4 x x0 x1).2 y y0 y1, pAp_s f0]
            exact ⟨Or.inl, fun z => z.elim id (fun w => absurd ⟨w.1, w.2.1⟩ hno)⟩
          refine sX11_riders_175 ?_
          rw [jw_id (x := f + 1) (by omega) (by omega), ef.1]
          refine ⟨fun z => absurd z (by omega), fun _ => ⟨f0, by omega, fun z => same (fun y => z y.1), fun z => c_isLive hf g4.2.2.2.1 f0 hfl (fun r h1 h0 => ⟨fun y => ?_, fun y => same (fun w => by have := h1 w.2; omega)⟩)⟩⟩
          have lv : vLv V f := Classical.byContradiction (fun w => y (h0 w))
          have k4 : V 10 f = 4 := Classical.byContradiction z
          rw [ef.2.1, ef.2.2.1]
          generalize hA : V 11 f = A at *
          generalize hB : V 12 f = B at *
          have hab : 0 ≤ A ∧ A < 20 ∧ 0 ≤ B ∧ B < 20 := by omega
          have oA := or20 (h4 A hab.1 hab.2.1).1.1 (h4 A hab.1 hab.2.1).1.2 hab.2.2.1 hab.2.2.2
          have hmid : ∀ x, 0 ≤ x → x < 20 → (0 ≤ jup m4 201 A (jor (m4 201 A) (jshl 1 B)) 201 x ∧ jup m4 201 A (jor (m4 201 A) (jshl 1 B)) 201 x < 1048576) ∧ ∀ w, 0 ≤ w → w < 20 → (tb (jup m4 201 A (jor (m4 201 A) (jshl 1 B)) 201 x) w = true ↔ pAp V f x w ∨ (x = A ∧ w = B)) := by
            intro x x0 x1
            rw [jup_self]
            by_cases e : x = A
            · rw [if_pos e, e]
              refine ⟨oA.1, fun w w0 w1 => ?_⟩
              rw [oA.2 w w0 w1, (h4 A hab.1 hab.2.1).2 w w0 w1]
              constructor
              · rintro (q | q)
                · exact Or.inl q
                · exact Or.inr ⟨rfl, q⟩
              · rintro (q | q)
                · exact Or.inl q
                · exact Or.inr q.2
            · rw [if_neg e]
              refine ⟨(h4 x x0 x1).1, fun w w0 w1 => ?_⟩
              rw [(h4 x x0 x1).2 w w0 w1]
              exact ⟨Or.inl, fun q => q.elim id (fun q => absurd q.1 e)⟩
          generalize hm5 : jup m4 201 A (jor (m4 201 A) (jshl 1 B)) = m5 at *
          have oB := or20 (hmid B hab.2.2.1 hab.2.2.2).1.1 (hmid B hab.2.2.1 hab.2.2.2).1.2 hab.1 hab.2.1
          refine ⟨f0, by omega, hab.1, hab.2.1, f0, by omega, hab.1, hab.2.1, f0, by omega, hab.2.2.1, hab.2.2.2, f0, by omega, hab.2.2.1, hab.2.2.2, K _ ⟨by omega, by omega, frx_upA (by rw [← hm5]; exact frx_upA f4 (by decide)) (by decide), fun x x0 x1 => ?_⟩⟩
          rw [jup_self]
          by_cases e : x = B
          · rw [if_pos e, e]
            refine ⟨oB.1, fun w w0 w1 => ?_⟩
            rw [oB.2 w w0 w1, (hmid B hab.2.2.1 hab.2.2.2).2 w w0 w1, pAp_s f0]
            constructor
            · rintro ((q | q) | q)
              · exact Or.inl q
              · exact Or.inr ⟨k4, lv, Or.inl ⟨by rw [hA, q.1], by rw [hB, q.2]⟩⟩
              · exact Or.inr ⟨k4, lv, Or.inr ⟨by rw [hA, q], hB⟩⟩
            · rintro (q | ⟨-, -, q | q⟩)
              · exact Or.inl (Or.inl q)
              · exact Or.inl (Or.inr ⟨by omega, by omega⟩)
              · exact Or.inr (by omega)
          · rw [if_neg e]
            refine ⟨(hmid x x0 x1).1, fun w w0 w1 => ?_⟩
            rw [(hmid x x0 x1).2 w w0 w1, pAp_s f0]
            constructor
            · rintro (q | q)
              · exact Or.inl q
              · exact Or.inr ⟨k4, lv, Or.inl ⟨by omega, by omega⟩⟩
            · rintro (q | ⟨-, -, q | q⟩)
              · exact Or.inl q
              · exact Or.inr ⟨by omega, by omega⟩
              · exact absurd (by omega) e
        · rintro f m4 hfl ⟨f0, f1', f4, h4⟩
          obtain rfl : f = V 0 6 := by omega
          have f4' : frx [195, 196, 201, 192, 193] [(139, 75)] m m4 := frx_tr f2 (frx_mono f4 (by decide) (by decide))
          refine sX11_riders_175 ⟨fun _ => hQ m4 f4' (gfr m4 f4') ⟨?_, fun p p0 p1 => ?_, h4⟩, fun z => absurd (Int.le_refl _) z⟩
          · rw [f4 139 75 (by decide) (by decide)]; exact e2
          · rw [frx_row f4 195 (by decide) (by decide), frx_row f4 196 (by decide) (by decide)]
            exact h2' p p0 p1
        · rw [z3 x x0 x1]
          refine ⟨by decide, fun y y0 y1 => ?_⟩
          rw [tb_zero]
          constructor
          · intro z; exact absurd z (by decide)
          · rintro ⟨f, f0, f1, -⟩; omega
    · have q := z1 p p0 p1
      rw [q.1, q.2]
      refine ⟨by decide, ?_, fun x x0 x1 => ?_⟩
      · rw [show min 0 (V 0 7) = 0 by omega]; rfl
      · rw [tb_zero]
        constructor
        · intro z; exact absurd z (by decide)
        · intro z; omega
