/-! the tender in the class -/
theorem teC_fr {d m m' : jM} (h0 : m' 120 0 = m 120 0) (h1 : m' 122 = m 122) (h2 : m' 123 = m 123) (h3 : m' 124 = m 124) (h : teC d m) : teC d m' := by
  unfold teC at h ⊢
  rw [h0, h1, h2, h3]
  exact h
theorem c_fits {d m : jM} {Q : Int → jM → Prop} {w l b : Int} (hk : teK d) (hc : teC d m) (l0 : 0 < l) (l1 : l ≤ 1023) (b0 : 0 ≤ b) (b1 : b < d 139 52) (hQ : ∀ r, (teB d w b l → r = 1) → (¬ teB d w b l → r = 0) → Q r m) : ML iX7_fits [(2, 120), (0, b), (0, l), (0, w)] m Q := by
  have q := hk.2.2 b b0 b1
  have hb := hk.2.1
  have e := hc.2 b b0 b1
  have hl := low_lsb l0 (by omega)
  refine sX7_fits ?_
  rw [e.1, e.2.1, jw_neg (by omega) (by omega)]
  have hf := jand_fit (S := d 181 b) (x := l) (by omega) (by omega) (by omega) hl
  refine ⟨b0, by omega, fun c => hQ 0 (fun z => ?_) (fun _ => rfl), fun c => ⟨b0, by omega, fun c2 => hQ 0 (fun z => absurd z.2.1 c2) (fun _ => rfl), fun c2 => ⟨b0, by omega, fun c3 => hQ 0 (fun z => absurd c3 z.1) (fun _ => rfl), fun c3 => hQ 1 (fun _ => rfl) (fun z => absurd ⟨c3, Classical.byContradiction c2, ?_⟩ z)⟩⟩⟩
  · have := hf.mp c
    rw [z.2.2] at this
    cases this
  · cases h : tb (d 181 b) (low l) with
    | true => rfl
    | false => exact absurd (hf.mpr h) c
theorem teRest_x {d : jM} (hk : teK d) {w l b : Int} (b0 : 0 ≤ b) (b1 : b < d 139 52) (l0 : 0 < l) (l1 : l ≤ 1023) (h : teB d w b l) : jxor l (d 181 b) = teRest d l b := by
  have q := hk.2.2 b b0 b1
  exact jxor_sub (by omega) (by omega) h.2.1
theorem enc_lt {v : Int} (h : -1 ≤ v) (h2 : v < 268435456) : enc v = if v = -1 then 268435456 else v := rfl
theorem c_chooseT {d m : jM} {Q : Int → jM → Prop} {w l : Int} (hk : teK d) (hc : teC d m) (l0 : 0 < l) (l1 : l ≤ 1023) (hS : ∀ b, 0 ≤ b → b < d 139 52 → teB d w b l → m 121 (teRest d l b) = enc (teA d w (teRest d l b))) (hQ : ∀ m', fr [121, 125] m m' → (∀ x, x ≠ l → m' 121 x = m 121 x ∧ m' 125 x = m 125 x) → m' 121 l = enc (teA d w l) → m' 125 l = teN d w l → Q 0 m') : ML iX7_choose [(2, 120), (0, l), (0, w)] m Q := by
  have hb20 := hk.2.1
  refine sX7_choose ⟨by omega, by omega, by omega, by omega, ?_⟩
  refine lup (n := d 139 52) (I := fun b m1 => 0 ≤ b ∧ b ≤ d 139 52 ∧ fr [121, 125] m m1 ∧ (∀ x, x ≠ l → m1 121 x = m 121 x ∧ m1 125 x = m 125 x) ∧ m1 121 l = enc (teV d w (teA d w) l b.toNat).1 ∧ m1 125 l = (teV d w (teA d w) l b.toNat).2) (G := fun b m1 => GL iX7_choose m1 17 [(2, 120), (0, l), (0, w), (0, b)] [] Q) ?_ ?_ 0 _ ⟨by decide, hk.1, fr_up (fr_up fr_rf (by decide)) (by decide), fun x hx => ?_, ?_, ?_⟩
  · rintro b m1 hb ⟨b0, b1, hf, hx, hV1, hV2⟩ K
    have hc1 := teC_fr (by rw [hf 120 (by decide)]) (hf 122 (by decide)) (hf 123 (by decide)) (hf 124 (by decide)) hc
    have bd := teVA_bd hk (w := w) l0 l1 b.toNat (by omega)
    have q := hk.2.2 b b0 hb
    have e := hc1.2 b b0 hb
    have nx : teV d w (teA d w) l (b + 1).toNat = if teB d w b l ∧ 0 ≤ teA d w (teRest d l b) ∧ ((teV d w (teA d w) l b.toNat).1 < 0 ∨ teA d w (teRest d l b) + d 182 b < (teV d w (teA d w) l b.toNat).1) then (teA d w (teRest d l b) + d 182 b, b) else teV d w (teA d w) l b.toNat := by
      rw [show (b + 1).toNat = b.toNat + 1 by omega]
      simp only [teV]
      rw [Int.toNat_of_nonneg b0]
    refine sX7_choose_17 ⟨fun c => absurd c (by rw [hc1.1]; omega), fun _ => c_fits hk hc1 l0 l1 b0 hb (fun r h1 h0 => ?_)⟩
    rw [jw_id (x := b + 1) (by omega) (by omega)]
    refine ⟨fun c => K m1 ⟨by omega, by omega, hf, hx, ?_, ?_⟩, fun c => ?_⟩
    · rw [nx, if_neg (fun z => by have := h1 z.1; omega)]; exact hV1
    · rw [nx, if_neg (fun z => by have := h1 z.1; omega)]; exact hV2
    · have hB : teB d w b l := Classical.byContradiction (fun z => c (h0 z))
      have rb := teRest_bd hk b0 hb l0 l1 hB
      have ab := teA_b hk (w := w) rb.1 (by omega)
      have es := hS b b0 hb hB
      rw [← (hx (teRest d l b) (by omega)).1] at es
      rw [e.2.1, e.2.2, teRest_x hk b0 hb l0 l1 hB, es, hV1]
      have hen : 0 ≤ enc (teA d w (teRest d l b)) ∧ enc (teA d w (teRest d l b)) ≤ 268435456 := by unfold enc; split <;> omega
      rw [jw_id (x := d 182 b + enc (teA d w (teRest d l b))) (by omega) (by omega)]
      refine ⟨b0, by omega, b0, by omega, rb.1, by omega, by omega, by omega, fun c2 => K m1 ⟨by omega, by omega, hf, hx, ?_, ?_⟩, fun c2 => ⟨b0, by omega, b0, by omega, rb.1, by omega, by omega, by omega, by omega, by omega, K _ ⟨by omega, by omega, fr_up (fr_up hf (by decide)) (by decide), fun x hxl => ?_, ?_, ?_⟩⟩⟩
      · rw [nx, if_neg (fun z => ?_)]
        · exact hV1
        · unfold enc at c2
          rw [if_neg (show ¬ teA d w (teRest d l b) = -1 by omega)] at c2
          rcases z.2.2 with z | z <;> (split at c2 <;> omega)
      · rw [nx, if_neg (fun z => ?_)]
        · exact hV2
        · unfold enc at c2
          rw [if_neg (show ¬ teA d w (teRest d l b) = -1 by omega)] at c2
          rcases z.2.2 with z | z <;> (split at c2 <;> omega)
      · rw [jup_ne (by decide), jup_self, if_neg hxl, jup_self, if_neg hxl, jup_ne (by decide)]
        exact hx x hxl
      · have hp : 0 ≤ teA d w (teRest d l b) := by
          unfold enc at c2
          split at c2 <;> split at c2 <;> omega
        have hor : (teV d w (teA d w) l b.toNat).1 < 0 ∨ teA d w (teRest d l b) + d 182 b < (teV d w (teA d w) l b.toNat).1 := by
          unfold enc at c2
          rw [if_neg (show ¬ teA d w (teRest d l b) = -1 by omega)] at c2
          split at c2 <;> omega
        rw [jup_ne (by decide), jup_self, if_pos rfl, nx, if_pos ⟨hB, hp, hor⟩]
        simp only
        unfold enc
        rw [if_neg (by omega), if_neg (by omega)]
        omega
      · have hp : 0 ≤ teA d w (teRest d l b) := by
          unfold enc at c2
          split at c2 <;> split at c2 <;> omega
        have hor : (teV d w (teA d w) l b.toNat).1 < 0 ∨ teA d w (teRest d l b) + d 182 b < (teV d w (teA d w) l b.toNat).1 := by
          unfold enc at c2
          rw [if_neg (show ¬ teA d w (teRest d l b) = -1 by omega)] at c2
          split at c2 <;> omega
        rw [jup_self, if_pos rfl, nx, if_pos ⟨hB, hp, hor⟩]
  · rintro b m1 hb ⟨b0, b1, hf, hx, hV1, hV2⟩
    obtain rfl : b = d 139 52 := by omega
    refine sX7_choose_17 ⟨fun _ => hQ m1 hf hx ?_ hV2, fun c => absurd ?_ c⟩
    · rw [hV1, ← teA_eq hk l0 l1]
    · rw [hf 120 (by decide), hc.1]
      exact Int.le_refl _
  · rw [jup_ne (by decide), jup_self, if_neg hx, jup_self, if_neg hx, jup_ne (by decide)]
    exact ⟨rfl, rfl⟩
  · rw [jup_ne (by decide), jup_self, if_pos rfl]
    rfl
  · rw [jup_self, if_pos rfl]
    rfl
/-- sets that can be left over -/
def teClo (d : jM) (w all : Int) (R : Int → Int) (l : Int) : Prop := ∀ x, l < x → x ≤ all → R x = 1 → ∀ b, 0 ≤ b → b < d 139 52 → teB d w b x → R (teRest d x b) = 1
theorem c_markReached {d m : jM} {Q : Int → jM → Prop} {w all : Int} (hk : teK d) (hc : teC d m) (a0 : 1 ≤ all) (a1 : all ≤ 1023) (hQ : ∀ m', fr [126] m m' → (∀ x, 0 ≤ x → x ≤ all → m' 126 x = 0 ∨ m' 126 x = 1) → m' 126 all = 1 → teClo d w all (m' 126) 0 → Q 0 m') : ML iX7_markReached [(2, 120), (0, all), (0, w)] m Q := by
  have hb20 := hk.2.1
  refine sX7_markReached ?_
  refine lup (n := all) (I := fun i m1 => 0 ≤ i ∧ i ≤ all ∧ fr [126] m m1 ∧ ∀ x, 0 ≤ x → x < i → m1 126 x = 0) (G := fun i m1 => GL iX7_markReached m1 2 [(2, 120), (0, all), (0, w), (0, i), (9, 0)] [] Q) ?_ ?_ 0 m ⟨by decide, by omega, fr_rf, fun x x0 x1 => by omega⟩
  · rintro i m1 hi ⟨i0, i1, hf, hz⟩ K
    refine sX7_markReached_2 ⟨fun c => absurd c (by omega), fun _ => ⟨i0, by omega, ?_⟩⟩
    rw [jw_id (x := i + 1) (by omega) (by omega)]
    refine K _ ⟨by omega, by omega, fr_up hf (by decide), fun x x0 x1 => ?_⟩
    rw [jup_self]
    split
    · rfl
    · exact hz x x0 (by omega)
  · rintro i m1 hi ⟨i0, i1, hf, hz⟩
    obtain rfl : i = all := by omega
    refine sX7_markReached_2 ⟨fun _ => ⟨i0, by omega, ?_⟩, fun c => absurd hi c⟩
    have key : ∀ (l : Int) (m2 : jM), (0 ≤ l ∧ l ≤ i ∧ fr [126] m m2 ∧ (∀ x, 0 ≤ x → x ≤ i → m2 126 x = 0 ∨ m2 126 x = 1) ∧ m2 126 i = 1 ∧ teClo d w i (m2 126) l) → GL iX7_markReached m2 29 [(2, 120), (9, 0), (0, w), (0, l), (9, 0)] [] Q := by
      refine ldn (I := fun l m2 => (0 ≤ l ∧ l ≤ i ∧ fr [126] m m2 ∧ (∀ x, 0 ≤ x → x ≤ i → m2 126 x = 0 ∨ m2 126 x = 1) ∧ m2 126 i = 1 ∧ teClo d w i (m2 126) l)) (G := fun l m2 => GL iX7_markReached m2 29 [(2, 120), (9, 0), (0, w), (0, l), (9, 0)] [] Q) ?_ (fun l m2 c h => absurd h.1 (by omega))
      rintro l m2 - ⟨l0, l1, hf2, h01, hall, hcl⟩ K2
      refine sX7_markReached_29 ⟨fun c => ?_, fun c => ?_⟩
      · obtain rfl : l = 0 := by omega
        exact hQ m2 hf2 h01 hall hcl
      · refine lup (n := d 139 52) (I := fun b m3 => 0 ≤ b ∧ b ≤ d 139 52 ∧ fr [126] m m3 ∧ (∀ x, 0 ≤ x → x ≤ i → m3 126 x = 0 ∨ m3 126 x = 1) ∧ m3 126 i = 1 ∧ teClo d w i (m3 126) l ∧ (m3 126 l = 1 → ∀ b', 0 ≤ b' → b' < b → teB d w b' l → m3 126 (teRest d l b') = 1)) (G := fun b m3 => GL iX7_markReached m3 36 [(2, 120), (9, 0), (0, w), (0, l), (0, b)] [] Q) ?_ ?_ 0 m2 ⟨by decide, hk.1, hf2, h01, hall, hcl, fun _ b' h0 h1 => by omega⟩
        · rintro b m3 hb ⟨b0, b1, hf3, h013, hall3, hcl3, hl3⟩ K3
          have hc3 := teC_fr (by rw [hf3 120 (by decide)]) (hf3 122 (by decide)) (hf3 123 (by decide)) (hf3 124 (by decide)) hc
          have e := hc3.2 b b0 hb
          refine sX7_markReached_36 ⟨fun c2 => absurd c2 (by rw [hc3.1]; omega), fun _ => ⟨by omega, by omega, fun c2 => ?_, fun c2 => ?_⟩⟩
          · rw [jw_id (x := l + -1) (by omega) (by omega)]
            refine K2 m3 ⟨by omega, by omega, hf3, h013, hall3, fun x x0 x1 hx => ?_⟩
            by_cases e : x = l
            · rw [e, c2] at hx
              cases hx
            · exact hcl3 x (by omega) x1 hx
          · have hl1 : m3 126 l = 1 := (h013 l l0 l1).resolve_left c2
            refine c_fits hk hc3 (by omega) (by omega) b0 hb (fun r h1 h0 => ?_)
            rw [jw_id (x := b + 1) (by omega) (by omega)]
            refine ⟨fun c3 => K3 m3 ⟨by omega, by omega, hf3, h013, hall3, hcl3, fun hl b' g0 g1 hB => ?_⟩, fun c3 => ?_⟩
            · by_cases e : b' = b
              · rw [e] at hB
                have := h1 hB
                omega
              · exact hl3 hl b' g0 (by omega) hB
            · have hB : teB d w b l := Classical.byContradiction (fun z => c3 (h0 z))
              have rb := teRest_bd hk b0 hb (by omega) (by omega) hB
              rw [e.2.1, teRest_x hk b0 hb (by omega) (by omega) hB]
              refine ⟨b0, by omega, rb.1, by omega, K3 _ ⟨by omega, by omega, fr_up hf3 (by decide), fun x x0 x1 => ?_, ?_, fun x x0 x1 hx b' g0 g1 hB' => ?_, fun hl b' g0 g1 hB' => ?_⟩⟩
              · rw [jup_self]
                split
                · exact Or.inr rfl
                · exact h013 x x0 x1
              · rw [jup_self]
                split
                · rfl
                · exact hall3
              · rw [jup_self, if_neg (by omega)] at hx
                have := hcl3 x x0 x1 hx b' g0 g1 hB'
                rw [jup_self]
                split
                · rfl
                · exact this
              · rw [jup_self]
                split
                · rfl
                · rename_i hn
                  by_cases e : b' = b
                  · rw [e] at hn
                    exact absurd rfl hn
                  · exact hl3 hl1 b' g0 (by omega) hB'
        · rintro b m3 hb ⟨b0, b1, hf3, h013, hall3, hcl3, hl3⟩
          obtain rfl : b = d 139 52 := by omega
          refine sX7_markReached_36 ⟨fun _ => ?_, fun c2 => absurd ?_ c2⟩
          · rw [jw_id (x := l + -1) (by omega) (by omega)]
            refine K2 m3 ⟨by omega, by omega, hf3, h013, hall3, fun x x0 x1 hx b' g0 g1 hB => ?_⟩
            by_cases e : x = l
            · rw [e] at hx hB ⊢
              exact hl3 hx b' g0 g1 hB
            · exact hcl3 x (by omega) x1 hx b' g0 g1 hB
          · rw [hf3 120 (by decide), hc.1]
            exact Int.le_refl _
    refine key i _ ⟨by omega, Int.le_refl _, fr_up hf (by decide), fun x x0 x1 => ?_, by rw [jup_self, if_pos rfl], fun x x0 x1 => absurd x0 (by omega)⟩
    rw [jup_self]
    split
    · exact Or.inr rfl
    · exact Or.inl (hz x x0 (by omega))
/-- what was solved: sums and choices of the sets that can be left over -/
def teS (d m : jM) (k w : Int) : Prop := 1 ≤ k ∧ k ≤ 10 ∧ -1 ≤ w ∧ w ≤ 5 ∧ ∃ R : Int → Int, R (2 ^ k.toNat - 1) = 1 ∧ teClo d w (2 ^ k.toNat - 1) R 0 ∧ ∀ x, 1 ≤ x → x ≤ 2 ^ k.toNat - 1 → R x = 1 → m 121 x = enc (teA d w x) ∧ m 125 x = teN d w x
theorem c_solveT {d m : jM} {Q : Int → jM → Prop} {k w : Int} (hk : teK d) (hc : teC d m) (hs : m 120 7 = 0 ∨ teS d m (m 120 7) (m 120 8)) (k0 : 1 ≤ k) (k1 : k ≤ 10) (w0 : -1 ≤ w) (w1 : w ≤ 5) (hQ : ∀ m', frx [121, 125, 126] [(120, 7), (120, 8)] m m' → m' 120 7 = k → m' 120 8 = w → teS d m' k w → Q 0 m') : ML iX7_solve [(2, 120), (0, k), (0, w)] m Q := by
  obtain ⟨ea, a1, a2⟩ := te_all k0 k1
  have run : ML iX7_markReached [(2, 120), (0, jw (jshl 1 k - 1)), (0, w)] (jup (jup m 120 7 k) 120 8 w) (fun _ m4 => GL iX7_solve (jup m4 121 0 0) 49 [(2, 120), (9, 0), (0, w), (0, jw (jshl 1 k - 1)), (0, 1)] [] Q) := by
    rw [ea]
    have f0 : frx [121, 125, 126] [(120, 7), (120, 8)] m (jup (jup m 120 7 k) 120 8 w) := frx_upF (frx_upF frx_rf (by decide)) (by decide)
    have ok : ∀ m1, frx [121, 125, 126] [(120, 7), (120, 8)] m m1 → teC d m1 := fun m1 hf => teC_fr (hf 120 0 (by decide) (by decide)) (frx_row hf _ (by decide) (by decide)) (frx_row hf _ (by decide) (by decide)) (frx_row hf _ (by decide) (by decide)) hc
    refine c_markReached hk (ok _ f0) a1 a2 (fun m1 hf1 h01 hall hcl => ?_)
    have f1 := frx_tr f0 (frx_mono (S' := [121, 125, 126]) (K' := [(120, 7), (120, 8)]) (frx_fr (K := []) hf1) (by decide) (by decide))
    have e7 : m1 120 7 = k := by rw [hf1 120 (by decide)]; rfl
    have e8 : m1 120 8 = w := by rw [hf1 120 (by decide)]; rfl
    generalize hall2 : (2 : Int) ^ k.toNat - 1 = all at *
    refine lup (n := all + 1) (I := fun l m2 => 1 ≤ l ∧ l ≤ all + 1 ∧ fr [121, 125] m1 m2 ∧ m2 121 0 = 0 ∧ ∀ x, 1 ≤ x → x < l → m1 126 x = 1 → m2 121 x = enc (teA d w x) ∧ m2 125 x = teN d w x) (G := fun l m2 => GL iX7_solve m2 49 [(2, 120), (9, 0), (0, w), (0, all), (0, l)] [] Q) ?_ ?_ 1 _ ⟨by decide, by omega, fr_up fr_rf (by decide), by rw [jup_self, if_pos rfl], fun x x0 x1 => by omega⟩
    · rintro l m2 hl ⟨l0, l1, hf2, hz, hS⟩ K
      refine sX7_solve_49 ⟨fun c => absurd c (by omega), fun _ => ⟨by omega, by omega, fun c => ?_, fun c => ?_⟩⟩
      · rw [jw_id (x := l + 1) (by omega) (by omega)]
        refine K m2 ⟨by omega, by omega, hf2, hz, fun x x0 x1 hx => ?_⟩
        by_cases e : x = l
        · rw [hf2 126 (by decide), ← e, hx] at c
          cases c
        · exact hS x x0 (by omega) hx
      · rw [hf2 126 (by decide)] at c
        have hr : m1 126 l = 1 := (h01 l (by omega) (by omega)).resolve_left c
        have hc2 : teC d m2 := teC_fr (by rw [hf2 120 (by decide)]) (hf2 122 (by decide)) (hf2 123 (by decide)) (hf2 124 (by decide)) (ok m1 f1)
        refine c_chooseT hk hc2 (by omega) (by omega) (fun b b0 b1 hB => ?_) (fun m3 hf3 hx3 hs3 hn3 => ?_)
        · have rb := teRest_bd hk b0 b1 (by omega) (by omega) hB
          by_cases e : teRest d l b = 0
          · rw [e, hz]; rfl
          · exact (hS _ (by omega) (by omega) (hcl l (by omega) (by omega) hr b b0 b1 hB)).1
        · rw [jw_id (x := l + 1) (by omega) (by omega)]
          refine K m3 ⟨by omega, by omega, fr_tr hf2 hf3, ?_, fun x x0 x1 hx => ?_⟩
          · rw [(hx3 0 (by omega)).1]; exact hz
          · by_cases e : x = l
            · rw [e]; exact ⟨hs3, hn3⟩
            · rw [(hx3 x e).1, (hx3 x e).2]
              exact hS x x0 (by omega) hx
    · rintro l m2 hl ⟨l0, l1, hf2, hz, hS⟩
      obtain rfl : l = all + 1 := by omega
      refine sX7_solve_49 ⟨fun _ => hQ m2 (frx_tr f1 (frx_mono (frx_fr (K := []) hf2) (by decide) (by decide))) (by rw [hf2 120 (by decide)]; exact e7) (by rw [hf2 120 (by decide)]; exact e8) ⟨k0, k1, w0, w1, m1 126, ?_, ?_, ?_⟩, fun c => absurd (by omega) c⟩
      · rw [hall2]; exact hall
      · rw [hall2]; exact hcl
      · rw [hall2]; exact fun x x0 x1 hx => hS x x0 (by omega) hx
  refine sX7_solve ⟨fun _ => run, fun c1 => ⟨fun _ => run, fun c2 => ?_⟩⟩
  have e1 : k = m 120 7 := Classical.byContradiction c1
  have e2 : w = m 120 8 := Classical.byContradiction c2
  refine hQ m frx_rf e1.symm e2.symm ?_
  rcases hs with h | h
  · omega
  · rw [e1, e2]; exact h
/-- the bid on a route, along the choices -/
noncomputable def teP (d : jM) (w c : Int) : Nat → Int → Int
  | 0 => fun _ => -1
  | n + 1 => fun l => if tb (d 181 (teN d w l)) c = true then teN d w l else teP d w c n (teRest d l (teN d w l))
theorem teN_in {d : jM} (hk : teK d) {w l : Int} (l0 : 0 < l) (l1 : l ≤ 1023) (h : 0 ≤ teA d w l) : 0 ≤ teN d w l ∧ teN d w l < d 139 52 ∧ teB d w (teN d w l) l ∧ 0 ≤ teA d w (teRest d l (teN d w l)) ∧ teA d w (teRest d l (teN d w l)) + d 182 (teN d w l) = teA d w l := by
  have k0 := hk.1
  obtain ⟨h1, h2, h3⟩ := teV_arg hk (w := w) (T := teA d w) l0 l1 (d 139 52).toNat (by omega)
  rw [← teA_eq hk l0 l1] at h1 h3
  unfold teN
  have q := h1 (by omega)
  exact ⟨by omega, by omega, q.1, q.2.1, q.2.2.1⟩
theorem teN_no {d : jM} (hk : teK d) {w l : Int} (l0 : 0 < l) (l1 : l ≤ 1023) (h : teA d w l = -1) : teN d w l = -1 := by
  have k0 := hk.1
  have b := teVA_bd hk (w := w) l0 l1 (d 139 52).toNat (by omega)
  rw [← teA_eq hk l0 l1] at b
  unfold teN
  omega
/-- the route stays in what is left -/
theorem te_left {d : jM} (hk : teK d) {w c l : Int} (l0 : 0 < l) (l1 : l ≤ 1023) (c0 : 0 ≤ c) (c1 : c < 10) (hA : 0 ≤ teA d w l) (hc : tb l c = true) (hn : tb (d 181 (teN d w l)) c = false) : 0 < teRest d l (teN d w l) ∧ teRest d l (teN d w l) < l ∧ tb (teRest d l (teN d w l)) c = true ∧ cnt (teRest d l (teN d w l)) 10 < cnt l 10 := by
  have q := teN_in hk l0 l1 hA
  have k := hk.2.2 _ q.1 q.2.1
  have rb := teRest_bd hk q.1 q.2.1 l0 l1 q.2.2.1
  have hl := low_lsb l0 (show l ≤ 2147483647 by omega)
  have bits : ∀ i, 0 ≤ i → i < 32 → tb (teRest d l (teN d w l)) i = (tb l i && !tb (d 181 (teN d w l)) i) := by
    intro i i0 i1
    unfold teRest
    rw [tb_and (by omega) (jxor_in _ _) i0 i1, tb_not (by omega)]
  have hc2 : tb (teRest d l (teN d w l)) c = true := by rw [bits c c0 (by omega), hc, hn]; rfl
  have hlow10 : low l < 10 := by
    apply Classical.byContradiction
    intro z
    have := tb_lt (k := 10) (i := low l) (a := l) (by omega) (by show l < 1024; omega) (by decide) (by omega)
    rw [hl.2.1] at this
    cases this
  refine ⟨?_, rb.2, hc2, cnt_sub (s := low l) ⟨hl.1, hlow10⟩ hl.2.1 ?_ (fun i i0 i1 h => ?_)⟩
  · rcases Int.lt_or_eq_of_le rb.1 with z | z
    · exact z
    · rw [← z, tb_zero] at hc2
      cases hc2
  · rw [bits _ hl.1 (by omega), q.2.2.1.2.2]
    simp
  · rw [bits (i : Int) (by omega) (by omega)] at h
    cases hli : tb l (i : Int) with
    | true => rfl
    | false => rw [hli] at h; cases h
theorem tb_all {k c : Int} (c0 : 0 ≤ c) (c1 : c < k) (k1 : k ≤ 10) : tb (2 ^ k.toNat - 1) c = true := by
  have h := tb_neg (a := -(2 ^ k.toNat)) (i := c)
  rw [show - -(2 : Int) ^ k.toNat - 1 = 2 ^ k.toNat - 1 by omega] at h
  rw [h]
  have e := tb_mulp (s := k.toNat) (y := -1) (i := c) c0
  rw [if_pos (by omega), show (2 : Int) ^ k.toNat * -1 = -2 ^ k.toNat by omega] at e
  rw [e]
  rfl
theorem c_bidOn {d m : jM} {Q : Int → jM → Prop} {k w c : Int} (hk : teK d) (hc : teC d m) (hs : teS d m k w) (c0 : 0 ≤ c) (c1 : c < k) (hQ : Q (if teA d w (2 ^ k.toNat - 1) = -1 then -1 else teP d w c k.toNat (2 ^ k.toNat - 1)) m) : ML iX7_bidOn [(2, 120), (0, c), (0, k)] m Q := by
  obtain ⟨k0, k1, w0, w1, R, hall, hcl, hR⟩ := hs
  obtain ⟨ea, a1, a2⟩ := te_all k0 k1
  have hb20 := hk.2.1
  have hca := tb_all c0 c1 k1
  have hcn : cnt (2 ^ k.toNat - 1) 10 ≤ k := by
    have : ∀ n : Nat, n ≤ 10 → sumN (fun i => if tb (2 ^ k.toNat - 1) i = true then 1 else 0) n ≤ k := by
      intro n
      induction n with
      | zero => intro _; show (0 : Int) ≤ k; omega
      | succ n ih =>
        intro hn
        have ih := ih (by omega)
        simp only [sumN]
        by_cases h : (n : Int) < k
        · have h2 := sumN_le (f := fun i => if tb (2 ^ k.toNat - 1) i = true then 1 else 0) (L := 1) n (fun i _ _ => by split <;> omega)
          split <;> omega
        · have e := tb_lt (k := k) (i := (n : Int)) (a := 2 ^ k.toNat - 1) (by omega) (by omega) (by omega) (by omega)
          rw [e]
          simpa using ih
    exact this 10 (by decide)
  refine sX7_bidOn ?_
  rw [ea]
  generalize hall2 : (2 : Int) ^ k.toNat - 1 = all at *
  by_cases hA : teA d w all = -1
  · rw [if_pos hA] at hQ
    have e := (hR all a1 (Int.le_refl _) hall).2
    rw [teN_no hk (by omega) a2 hA] at e
    refine sX7_bidOn_9 ⟨fun z => absurd z (by omega), fun _ => ⟨fun z => absurd z (by omega), fun _ => ⟨by omega, by omega, ?_⟩⟩⟩
    rw [e]
    exact ⟨fun _ => hQ, fun z => absurd rfl z⟩
  · rw [if_neg hA] at hQ
    have hb := teA_b hk (w := w) (l := all) (by omega) a2
    refine lup2 (n := k) (I := fun i (m' : jM) l => 0 ≤ i ∧ m' = m ∧ 0 < l ∧ l ≤ all ∧ R l = 1 ∧ 0 ≤ teA d w l ∧ tb l c = true ∧ cnt l 10 ≤ k - i ∧ teP d w c (k - i).toNat l = teP d w c k.toNat all) (G := fun i m' l => GL iX7_bidOn m' 9 [(2, 120), (0, c), (0, k), (0, l), (0, i), (9, 0)] [] Q) ?_ ?_ 0 m all ⟨by decide, rfl, by omega, Int.le_refl _, hall, by omega, hca, by omega, by rw [Int.sub_zero]⟩
    · rintro i m' l hi ⟨i0, rfl, l0, l1, hl, hAl, hcl2, hcn2, hP⟩ K
      have e := (hR l (by omega) l1 hl).2
      have q := teN_in hk (w := w) l0 (by omega) hAl
      have kb := hk.2.2 _ q.1 q.2.1
      have ec := hc.2 _ q.1 q.2.1
      have eP : teP d w c (k - i).toNat l = if tb (d 181 (teN d w l)) c = true then teN d w l else teP d w c (k - (i + 1)).toNat (teRest d l (teN d w l)) := by
        rw [show (k - i).toNat = (k - (i + 1)).toNat + 1 by omega]
        rfl
      refine sX7_bidOn_9 ⟨fun z => absurd z (by omega), fun _ => ⟨fun z => absurd z (by omega), fun _ => ⟨by omega, by omega, ?_⟩⟩⟩
      rw [e, ec.2.1, jshr_bit (by omega) c0 (by omega), jw_id (x := i + 1) (by omega) (by omega)]
      refine ⟨fun z => absurd z (by omega), fun _ => ⟨q.1, by omega, fun z => ⟨q.1, by omega, ?_⟩, fun z => ?_⟩⟩
      · have hn : tb (d 181 (teN d w l)) c = false := by
          cases h : tb (d 181 (teN d w l)) c with
          | false => rfl
          | true => rw [h] at z; exact absurd z (by decide)
        have lf := te_left hk l0 (by omega) c0 (by omega) hAl hcl2 hn
        rw [teRest_x hk q.1 q.2.1 l0 (by omega) q.2.2.1]
        refine K m' _ ⟨by omega, rfl, lf.1, by omega, hcl l (by omega) l1 hl _ q.1 q.2.1 q.2.2.1, q.2.2.2.1, lf.2.2.1, by omega, ?_⟩
        rw [← hP, eP, hn, if_neg (by decide)]
      · have hn : tb (d 181 (teN d w l)) c = true := by
          cases h : tb (d 181 (teN d w l)) c with
          | true => rfl
          | false => rw [h] at z; exact absurd rfl z
        rw [← hP, eP, hn, if_pos rfl] at hQ
        exact hQ
    · rintro i m' l hi ⟨i0, rfl, l0, l1, hl, hAl, hcl2, hcn2, hP⟩
      have h1 := cnt_sub (x := l) (y := 0) (s := c) (n := 10) ⟨c0, by omega⟩ hcl2 (tb_zero _) (fun i _ _ h => by rw [tb_zero] at h; cases h)
      have h2 := (cnt_nn 0 10).1
      omega
/-- awarded of the reference -/
theorem c_awarded {d m : jM} {Q : Int → jM → Prop} {k w c : Int} (hk : teK d) (hr : teR d m) (hno : ∀ m', fr [215] m m' → ¬ (1 ≤ k ∧ k ≤ 10 ∧ -1 ≤ w ∧ w ≤ 5 ∧ 0 ≤ c ∧ c < k) → Q (-1) m') (hQ : ∀ m', 1 ≤ k → k ≤ 10 → -1 ≤ w → w ≤ 5 → 0 ≤ c → c < k → fr [215] m m' → Q (if teA d w (2 ^ k.toNat - 1) = -1 then -1 else teP d w c k.toNat (2 ^ k.toNat - 1)) m') : ML iX11_awarded [(2, 139), (0, k), (0, w), (0, c)] m Q := by
  refine sX11_awarded (c_award hk hr (fun hn => ⟨fun _ => hno m fr_rf (by omega), fun z => absurd (by decide) z⟩) (fun m1 k0 k1 w0 w1 hf hT => ?_))
  obtain ⟨ea, a1, a2⟩ := te_all k0 k1
  have hb := teA_b hk (w := w) (l := 2 ^ k.toNat - 1) (by omega) a2
  have hb20 := hk.2.1
  have hk0 := hk.1
  refine ⟨fun z => ?_, fun z => ⟨fun z2 => hno m1 hf (by omega), fun z2 => ⟨fun z3 => ?_, fun z3 => hno m1 hf (by omega)⟩⟩⟩
  · have e : teA d w (2 ^ k.toNat - 1) = -1 := by split at z <;> omega
    by_cases hcc : 0 ≤ c ∧ c < k
    · have q := hQ m1 k0 k1 w0 w1 hcc.1 hcc.2 hf
      rw [if_pos e] at q
      exact q
    · exact hno m1 hf (by omega)
  · have e : ¬ teA d w (2 ^ k.toNat - 1) = -1 := by
      intro y
      rw [if_pos y] at z
      exact z (by decide)
    have hca := tb_all (c := c) (by omega) z3 k1
    have hr1 : teR d m1 := by
      unfold teR at hr ⊢
      rw [hf 139 (by decide), hf 180 (by decide), hf 181 (by decide), hf 182 (by decide)]
      exact hr
    rw [ea]
    have q := hQ m1 k0 k1 w0 w1 (by omega) z3 hf
    rw [if_neg e] at q
    have hcn := cnt_nn (2 ^ k.toNat - 1) 10
    have hcn2 : cnt (2 ^ k.toNat - 1) 10 ≤ k := by
      have : ∀ n : Nat, n ≤ 10 → sumN (fun i => if tb (2 ^ k.toNat - 1) i = true then 1 else 0) n ≤ k := by
        intro n
        induction n with
        | zero => intro _; show (0 : Int) ≤ k; omega
        | succ n ih =>
          intro hn
          have ih := ih (by omega)
          simp only [sumN]
          by_cases h : (n : Int) < k
          · have h2 := sumN_le (f := fun i => if tb (2 ^ k.toNat - 1) i = true then 1 else 0) (L := 1) n (fun i _ _ => by split <;> omega)
            split <;> omega
          · have e := tb_lt (k := k) (i := (n : Int)) (a := 2 ^ k.toNat - 1) (by omega) (by omega) (by omega) (by omega)
            rw [e]
            simpa using ih
      exact this 10 (by decide)
    generalize hall2 : (2 : Int) ^ k.toNat - 1 = all at *
    have key : ∀ (n : Nat) (l : Int), 0 < l → l ≤ all → 0 ≤ teA d w l → tb l c = true → cnt l 10 ≤ n → teP d w c n l = teP d w c k.toNat all → GL iX11_awarded m1 27 [(2, 139), (9, 0), (0, w), (0, c), (0, l), (9, 0), (9, 0)] [] Q := by
      intro n
      induction n with
      | zero =>
        intro l l0 l1 hAl hcl hcn hP
        have h1 := cnt_sub (x := l) (y := 0) (s := c) (n := 10) ⟨by omega, by omega⟩ hcl (tb_zero _) (fun i _ _ h => by rw [tb_zero] at h; cases h)
        have h2 := (cnt_nn 0 10).1
        omega
      | succ n ih =>
        intro l l0 l1 hAl hcl hcn hP
        have nq := teN_in hk (w := w) l0 (by omega) hAl
        have kb := hk.2.2 _ nq.1 nq.2.1
        obtain ⟨g1, g2, g3⟩ := teV_arg hk (w := w) (T := teA d w) (l := l) l0 (by omega) (d 139 52).toNat (by omega)
        refine sX11_awarded_27 ⟨fun z => absurd z (by omega), fun _ => ?_⟩
        rw [hr1.1, jw_id (x := d 139 52 - 1) (by omega) (by omega)]
        refine ldn2 (I := fun b (m' : jM) f => -1 ≤ b ∧ b < d 139 52 ∧ m' = m1 ∧ (teN d w l ≤ b ∨ f = teN d w l)) (G := fun b m' f => GL iX11_awarded m' 43 [(2, 139), (9, 0), (0, w), (0, c), (0, l), (0, f), (0, b)] [] Q) ?_ ?_ (d 139 52 - 1) m1 (-1) ⟨by omega, by omega, rfl, Or.inl (by omega)⟩
        · rintro b m' f b0 ⟨-, b1, rfl, hf2⟩ K
          refine sX11_awarded_43 ⟨fun z => absurd z (by omega), fun _ => ?_⟩
          refine c_isBid hk hr1 (fun x x0 x1 => hT x x0 (by omega)) l0 (by omega) b0 b1 (fun r h1 h0 => ?_)
          rw [jw_id (x := b + -1) (by omega) (by omega), show b + -1 = b - 1 by omega]
          refine ⟨fun z => K _ _ ⟨by omega, by omega, rfl, ?_⟩, fun z => ?_⟩
          · rcases hf2 with y | y
            · by_cases e2 : teN d w l = b
              · have := h1 (by rw [← e2]; exact ⟨nq.2.2.1, nq.2.2.2.1⟩)
                omega
              · exact Or.inl (by omega)
            · exact Or.inr y
          · have hB : teB d w b l ∧ 0 ≤ teA d w (teRest d l b) := Classical.byContradiction (fun y => z (h0 y))
            have rb := teRest_bd hk b0 b1 l0 (by omega) hB.1
            have ab := teA_b hk (w := w) rb.1 (by omega)
            have pb := hk.2.2 b b0 b1
            have e3 := hT _ rb.1 (by omega)
            have e4 := hT l (by omega) l1
            have mn := g2 b.toNat (Nat.zero_le _) (by omega) (by rw [Int.toNat_of_nonneg b0]; exact hB.1) (by rw [Int.toNat_of_nonneg b0]; exact hB.2)
            rw [Int.toNat_of_nonneg b0] at mn
            rw [← teA_eq hk l0 (by omega)] at mn
            have eN : teN d w l = (teV d w (teA d w) l (d 139 52).toNat).2 := rfl
            rw [← eN] at mn
            rw [hr1.2.2.1, hr1.2.2.2]
            unfold teRest at e3 rb ab mn
            rw [e3, e4, jw_id (by omega) (by omega)]
            refine ⟨b0, by omega, rb.1, by omega, b0, by omega, by omega, by omega, fun y => K _ _ ⟨by omega, by omega, rfl, ?_⟩, fun y => K _ _ ⟨by omega, by omega, rfl, ?_⟩⟩
            · rcases hf2 with x | x
              · by_cases e2 : teN d w l = b
                · have n5 := nq.2.2.2.2
                  unfold teRest at n5
                  rw [e2] at n5
                  exact absurd n5 y
                · exact Or.inl (by omega)
              · exact Or.inr x
            · by_cases e2 : teN d w l = b
              · exact Or.inr e2.symm
              · rcases Int.lt_or_le b (teN d w l) with x | x
                · have := mn.2.2 x
                  omega
                · exact Or.inl (by omega)
        · rintro b m' f b0 ⟨b00, b1, rfl, hf2⟩
          obtain rfl : b = -1 := by omega
          obtain rfl : f = teN d w l := hf2.resolve_left (by omega)
          refine sX11_awarded_43 ⟨fun _ => ⟨nq.1, by omega, ?_⟩, fun y => absurd (by decide) y⟩
          rw [hr1.2.2.1, jshr_bit (by omega) (by omega) (by omega)]
          have eP : teP d w c (n + 1) l = if tb (d 181 (teN d w l)) c = true then teN d w l else teP d w c n (teRest d l (teN d w l)) := rfl
          refine ⟨fun y => ⟨nq.1, by omega, ?_⟩, fun y => ?_⟩
          · have hn : tb (d 181 (teN d w l)) c = false := by
              cases h : tb (d 181 (teN d w l)) c with
              | false => rfl
              | true => rw [h] at y; exact absurd rfl y
            have lf := te_left hk l0 (by omega) (by omega) (by omega) hAl hcl hn
            have l4 := lf.2.2.2
            have l2 := lf.2.1
            refine ih _ lf.1 (by show teRest d l (teN d w l) ≤ all; omega) nq.2.2.2.1 lf.2.2.1 (by show cnt (teRest d l (teN d w l)) 10 ≤ n; omega) ?_
            rw [← hP, eP, hn, if_neg (by decide)]
            rfl
          · have hn : tb (d 181 (teN d w l)) c = true := by
              cases h : tb (d 181 (teN d w l)) c with
              | true => rfl
              | false => rw [h] at y; exact absurd (by decide) y
            rw [← hP, eP, hn, if_pos rfl] at q
            exact q
    exact key k.toNat all (by omega) (Int.le_refl _) (by omega) hca (by omega) rfl
