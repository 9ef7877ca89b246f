/-! the tender: least sums of bids -/
def teK (d : jM) : Prop := 0 ≤ d 139 52 ∧ d 139 52 ≤ 20 ∧ ∀ b, 0 ≤ b → b < d 139 52 → 0 ≤ d 180 b ∧ d 180 b ≤ 5 ∧ 1 ≤ d 181 b ∧ d 181 b ≤ 1023 ∧ 0 ≤ d 182 b ∧ d 182 b ≤ 9999
def teR (d m : jM) : Prop := m 139 52 = d 139 52 ∧ m 180 = d 180 ∧ m 181 = d 181 ∧ m 182 = d 182
def teC (d m : jM) : Prop := m 120 0 = d 139 52 ∧ ∀ b, 0 ≤ b → b < d 139 52 → m 122 b = d 180 b ∧ m 123 b = d 181 b ∧ m 124 b = d 182 b
def teRest (d : jM) (l b : Int) : Int := jand l (jxor (d 181 b) (-1))
abbrev teB (d : jM) (w b l : Int) : Prop := d 180 b ≠ w ∧ jand (d 181 b) (jxor l (-1)) = 0 ∧ tb (d 181 b) (low l) = true
noncomputable def teV (d : jM) (w : Int) (T : Int → Int) (l : Int) : Nat → Int × Int
  | 0 => (-1, -1)
  | k + 1 => if teB d w k l ∧ 0 ≤ T (teRest d l k) ∧ ((teV d w T l k).1 < 0 ∨ T (teRest d l k) + d 182 k < (teV d w T l k).1) then (T (teRest d l k) + d 182 k, (k : Int)) else teV d w T l k
noncomputable def teT (d : jM) (w : Int) : Nat → Int → Int
  | 0 => fun x => if x = 0 then 0 else -1
  | k + 1 => fun x => if x = ((k + 1 : Nat) : Int) then (teV d w (teT d w k) ((k + 1 : Nat) : Int) (d 139 52).toNat).1 else teT d w k x
noncomputable def teA (d : jM) (w x : Int) : Int := teT d w x.toNat x
noncomputable def teN (d : jM) (w x : Int) : Int := (teV d w (teA d w) x (d 139 52).toNat).2
theorem teRest_bd {d : jM} (hk : teK d) {w b l : Int} (b0 : 0 ≤ b) (b1 : b < d 139 52) (l0 : 0 < l) (l1 : l ≤ 1023) (h : teB d w b l) : 0 ≤ teRest d l b ∧ teRest d l b < l := by
  have := hk.2.2 b b0 b1
  exact jrest (by omega) (by omega) (by omega) (low_lsb l0 (by omega)) h.2.2
theorem teV_cg {d : jM} (hk : teK d) {w l : Int} {T T' : Int → Int} (l0 : 0 < l) (l1 : l ≤ 1023) (h : ∀ x, 0 ≤ x → x < l → T x = T' x) : ∀ k : Nat, k ≤ d 139 52 → teV d w T l k = teV d w T' l k := by
  intro k
  induction k with
  | zero => intro _; rfl
  | succ k ih =>
    intro hb
    simp only [teV]
    rw [ih (by omega)]
    by_cases hB : teB d w k l
    · have := teRest_bd hk (by omega) (by omega) l0 l1 hB
      rw [h _ this.1 this.2]
    · rw [if_neg (fun z => hB z.1), if_neg (fun z => hB z.1)]
theorem teT_le (d : jM) (w : Int) : ∀ (k : Nat) (x : Int), 0 ≤ x → x ≤ k → teT d w k x = teA d w x := by
  intro k
  induction k with
  | zero =>
    intro x h0 h1
    obtain rfl : x = 0 := by omega
    rfl
  | succ k ih =>
    intro x h0 h1
    by_cases e : x = ((k + 1 : Nat) : Int)
    · subst e
      rfl
    · simp only [teT]
      rw [if_neg e]
      exact ih x h0 (by omega)
theorem teA_eq {d : jM} (hk : teK d) {w l : Int} (l0 : 0 < l) (l1 : l ≤ 1023) : teA d w l = (teV d w (teA d w) l (d 139 52).toNat).1 := by
  obtain ⟨k, rfl⟩ : ∃ k : Nat, l = ((k + 1 : Nat) : Int) := ⟨(l - 1).toNat, by omega⟩
  unfold teA
  rw [Int.toNat_natCast]
  simp only [teT]
  rw [if_pos trivial]
  congr 1
  exact teV_cg hk l0 l1 (fun x x0 x1 => teT_le d w k x x0 (by omega)) _ (by have := hk.1; omega)
theorem teV_bd {d : jM} (hk : teK d) {w l : Int} {T : Int → Int} (l0 : 0 < l) (l1 : l ≤ 1023) (h : ∀ x, 0 ≤ x → x < l → -1 ≤ T x ∧ T x ≤ 9999 * x) : ∀ k : Nat, k ≤ d 139 52 → -1 ≤ (teV d w T l k).1 ∧ (teV d w T l k).1 ≤ 9999 * l ∧ -1 ≤ (teV d w T l k).2 ∧ (teV d w T l k).2 < k ∧ ((teV d w T l k).1 < 0 ↔ (teV d w T l k).2 < 0) := by
  intro k
  induction k with
  | zero =>
    intro _
    show (-1 : Int) ≤ -1 ∧ (-1 : Int) ≤ 9999 * l ∧ (-1 : Int) ≤ -1 ∧ (-1 : Int) < ((0 : Nat) : Int) ∧ ((-1 : Int) < 0 ↔ (-1 : Int) < 0)
    omega
  | succ k ih =>
    intro hb
    have ih := ih (by omega)
    simp only [teV]
    split
    · rename_i c
      have r := teRest_bd hk (by omega) (by omega) l0 l1 c.1
      have := h _ r.1 r.2
      have q := hk.2.2 k (by omega) (by omega)
      simp only
      omega
    · omega
theorem teA_bd {d : jM} (hk : teK d) {w : Int} : ∀ (n : Nat) (l : Int), l < n → 0 ≤ l → l ≤ 1023 → -1 ≤ teA d w l ∧ teA d w l ≤ 9999 * l := by
  intro n
  induction n with
  | zero => intro l h h0; omega
  | succ n ih =>
    intro l h h0 h1
    by_cases e : l = 0
    · subst e
      exact ⟨by show (-1 : Int) ≤ 0; decide, by show (0 : Int) ≤ 9999 * 0; decide⟩
    · rw [teA_eq hk (by omega) h1]
      have := teV_bd hk (w := w) (T := teA d w) (by omega) h1 (fun x x0 x1 => ih x (by omega) x0 (by omega)) (d 139 52).toNat (by have := hk.1; omega)
      omega
theorem teA_b {d : jM} (hk : teK d) {w l : Int} (h0 : 0 ≤ l) (h1 : l ≤ 1023) : -1 ≤ teA d w l ∧ teA d w l ≤ 9999 * l := teA_bd hk (l.toNat + 1) l (by omega) h0 h1
theorem teVA_bd {d : jM} (hk : teK d) {w l : Int} (l0 : 0 < l) (l1 : l ≤ 1023) (k : Nat) (h : k ≤ d 139 52) : -1 ≤ (teV d w (teA d w) l k).1 ∧ (teV d w (teA d w) l k).1 ≤ 9999 * l ∧ -1 ≤ (teV d w (teA d w) l k).2 ∧ (teV d w (teA d w) l k).2 < k ∧ ((teV d w (teA d w) l k).1 < 0 ↔ (teV d w (teA d w) l k).2 < 0) := teV_bd hk (w := w) (T := teA d w) l0 l1 (fun x x0 x1 => teA_b hk x0 (by omega)) k h
/-- the least bid that does it -/
theorem teV_arg {d : jM} (hk : teK d) {w l : Int} {T : Int → Int} (l0 : 0 < l) (l1 : l ≤ 1023) : ∀ k : Nat, k ≤ d 139 52 → (0 ≤ (teV d w T l k).2 → teB d w (teV d w T l k).2 l ∧ 0 ≤ T (teRest d l (teV d w T l k).2) ∧ T (teRest d l (teV d w T l k).2) + d 182 (teV d w T l k).2 = (teV d w T l k).1 ∧ (teV d w T l k).2 < k) ∧ (∀ b, 0 ≤ b → b < k → teB d w b l → 0 ≤ T (teRest d l b) → 0 ≤ (teV d w T l k).2 ∧ (teV d w T l k).1 ≤ T (teRest d l b) + d 182 b ∧ (b < (teV d w T l k).2 → (teV d w T l k).1 < T (teRest d l b) + d 182 b)) ∧ ((teV d w T l k).1 < 0 ↔ (teV d w T l k).2 < 0) := by
  intro k
  induction k with
  | zero =>
    intro _
    refine ⟨fun h => ?_, fun b b0 b1 => by omega, ?_⟩
    · have : (0 : Int) ≤ -1 := h
      omega
    · show (-1 : Int) < 0 ↔ (-1 : Int) < 0
      exact Iff.rfl
  | succ k ih =>
    intro hb
    obtain ⟨i1, i2, i3⟩ := ih (by omega)
    have q := hk.2.2 k (by omega) (by omega)
    simp only [teV]
    split
    · rename_i c
      refine ⟨fun _ => ⟨c.1, c.2.1, rfl, by simp only; omega⟩, fun b b0 b1 hB hT => ?_, by simp only; omega⟩
      simp only
      by_cases e : b = k
      · rw [e]
        exact ⟨by omega, Int.le_refl _, fun z => by omega⟩
      · have := i2 b b0 (by omega) hB hT
        rcases c.2.2 with z | z
        · omega
        · exact ⟨by omega, by omega, fun _ => by omega⟩
    · rename_i c
      refine ⟨fun h => ⟨(i1 h).1, (i1 h).2.1, (i1 h).2.2.1, by have := (i1 h).2.2.2; omega⟩, fun b b0 b1 hB hT => ?_, i3⟩
      by_cases e : b = k
      · rw [e] at hB hT ⊢
        have hn : ¬ ((teV d w T l k).1 < 0 ∨ T (teRest d l k) + d 182 k < (teV d w T l k).1) := fun z => c ⟨hB, hT, z⟩
        have h2 : 0 ≤ (teV d w T l k).2 := by omega
        have := (i1 h2).2.2.2
        exact ⟨h2, by omega, fun z => by omega⟩
      · exact i2 b b0 (by omega) hB hT
theorem c_isBid {d m : jM} {Q : Int → jM → Prop} {w l b : Int} (hk : teK d) (hr : teR d m) (hT : ∀ x, 0 ≤ x → x < l → m 215 x = teA d w x) (l0 : 0 < l) (l1 : l ≤ 1023) (b0 : 0 ≤ b) (b1 : b < d 139 52) (hQ : ∀ r, (teB d w b l ∧ 0 ≤ teA d w (teRest d l b) → r = 1) → (¬ (teB d w b l ∧ 0 ≤ teA d w (teRest d l b)) → r = 0) → Q r m) : ML iX11_isBid [(2, 139), (0, b), (0, l), (0, w)] m Q := by
  have q := hk.2.2 b b0 b1
  have hb := hk.2.1
  have hl := low_lsb l0 (by omega)
  have hl2 := lsb_lt (by omega) (by omega) hl
  refine sX11_isBid ?_
  rw [hr.2.1, hr.2.2.1]
  refine ⟨b0, by omega, fun c => hQ 0 (fun z => absurd c z.1.1) (fun _ => rfl), fun c => ⟨b0, by omega, fun c2 => hQ 0 (fun z => absurd z.1.2.1 c2) (fun _ => rfl), fun c2 => ⟨b0, by omega, c_firstOf l0 (by omega) ?_⟩⟩⟩
  rw [jshr_bit (by omega) hl.1 (by omega), hr.2.2.1]
  have c2 := Classical.byContradiction c2
  refine ⟨fun c3 => hQ 0 (fun z => ?_) (fun _ => rfl), fun c3 => ?_⟩
  · rw [if_pos z.1.2.2] at c3
    exact absurd rfl c3
  · have ht : tb (d 181 b) (low l) = true := by
      apply Classical.byContradiction
      intro z
      rw [if_neg z] at c3
      exact c3 (by decide)
    have hB : teB d w b l := ⟨c, c2, ht⟩
    have r := teRest_bd hk b0 b1 l0 l1 hB
    refine ⟨b0, by omega, r.1, by unfold teRest at r; omega, ?_⟩
    have e := hT _ r.1 r.2
    unfold teRest at e
    rw [e]
    exact ⟨fun c4 => hQ 0 (fun z => absurd z.2 (Int.not_le.mpr c4)) (fun _ => rfl), fun c4 => hQ 1 (fun _ => rfl) (fun z => absurd ⟨hB, Int.not_lt.mp c4⟩ z)⟩
theorem te_all {k : Int} (h0 : 1 ≤ k) (h1 : k ≤ 10) : jw (jshl 1 k - 1) = 2 ^ k.toNat - 1 ∧ 1 ≤ (2 : Int) ^ k.toNat - 1 ∧ (2 : Int) ^ k.toNat - 1 ≤ 1023 := by
  have e1 : (2 : Int) ^ 1 ≤ 2 ^ k.toNat := p2le (by omega)
  have e2 : (2 : Int) ^ k.toNat ≤ 2 ^ 10 := p2le (by omega)
  exact ⟨p2m1 (by omega) (by omega), by omega, by omega⟩
/-- award of the reference -/
theorem c_award {d m : jM} {Q : Int → jM → Prop} {k w : Int} (hk : teK d) (hr : teR d m) (hno : ¬ (1 ≤ k ∧ k ≤ 10 ∧ -1 ≤ w ∧ w ≤ 5) → Q (-1) m) (hQ : ∀ m', 1 ≤ k → k ≤ 10 → -1 ≤ w → w ≤ 5 → fr [215] m m' → (∀ x, 0 ≤ x → x ≤ 2 ^ k.toNat - 1 → m' 215 x = teA d w x) → Q (if teA d w (2 ^ k.toNat - 1) = -1 then -2 else teA d w (2 ^ k.toNat - 1)) m') : ML iX11_award [(2, 139), (0, k), (0, w)] m Q := by
  refine sX11_award (sX11_isIn ⟨fun c => ⟨fun _ => hno (by omega), fun z => absurd rfl z⟩, fun c1 => ⟨fun c => ⟨fun _ => hno (by omega), fun z => absurd rfl z⟩, fun c2 => ⟨fun z => absurd z (by decide), fun _ => sX11_isIn ⟨fun c => ⟨fun z => absurd rfl z, fun _ => hno (by omega)⟩, fun c3 => ⟨fun c => ⟨fun z => absurd rfl z, fun _ => hno (by omega)⟩, fun c4 => ⟨fun _ => ?_, fun z => absurd (by decide) z⟩⟩⟩⟩⟩⟩)
  obtain ⟨ea, a1, a2⟩ := te_all (k := k) (by omega) (by omega)
  rw [ea]
  generalize hall : (2 : Int) ^ k.toNat - 1 = all at *
  have hb20 := hk.2.1
  refine lup (n := all + 1) (I := fun l m1 => 1 ≤ l ∧ l ≤ all + 1 ∧ fr [215] m m1 ∧ ∀ x, 0 ≤ x → x < l → m1 215 x = teA d w x) (G := fun l m1 => GL iX11_award m1 37 [(2, 139), (9, 0), (0, w), (0, all), (0, l), (9, 0), (9, 0)] [] Q) ?_ ?_ 1 _ ⟨by decide, by omega, fr_up fr_rf (by decide), fun x x0 x1 => ?_⟩
  · rintro l m1 hl ⟨l0, l1, hf, hT⟩ K
    refine sX11_award_37 ⟨fun c => absurd c (by omega), fun _ => ⟨by omega, by omega, ?_⟩⟩
    refine lup (n := d 139 52) (I := fun b m2 => 0 ≤ b ∧ b ≤ d 139 52 ∧ fr [215] m m2 ∧ (∀ x, 0 ≤ x → x < l → m2 215 x = teA d w x) ∧ m2 215 l = (teV d w (teA d w) l b.toNat).1) (G := fun b m2 => GL iX11_award m2 54 [(2, 139), (9, 0), (0, w), (0, all), (0, l), (0, b), (9, 0)] [] Q) ?_ ?_ 0 _ ⟨by decide, hk.1, fr_up hf (by decide), fun x x0 x1 => by rw [jup_self, if_neg (by omega)]; exact hT x x0 x1, by rw [jup_self, if_pos rfl]; rfl⟩
    · rintro b m2 hb ⟨b0, b1, hf2, hT2, hV⟩ K2
      have hr2 : teR d m2 := by
        unfold teR at hr ⊢
        rw [hf2 139 (by decide), hf2 180 (by decide), hf2 181 (by decide), hf2 182 (by decide)]
        exact hr
      have bd := teVA_bd hk (w := w) (l := l) (by omega) (by omega) b.toNat (by omega)
      have q := hk.2.2 b b0 hb
      have nx : (teV d w (teA d w) l (b + 1).toNat).1 = if teB d w b l ∧ 0 ≤ teA d w (teRest d l b) ∧ ((teV d w (teA d w) l b.toNat).1 < 0 ∨ teA d w (teRest d l b) + d 182 b < (teV d w (teA d w) l b.toNat).1) then teA d w (teRest d l b) + d 182 b else (teV d w (teA d w) l b.toNat).1 := by
        rw [show (b + 1).toNat = b.toNat + 1 by omega]
        simp only [teV]
        rw [Int.toNat_of_nonneg b0]
        split <;> rfl
      refine sX11_award_54 ⟨fun c => absurd c (by rw [hr2.1]; omega), fun _ => ?_⟩
      refine c_isBid hk hr2 hT2 (by omega) (by omega) b0 hb (fun r hr1 hr0 => ?_)
      rw [jw_id (x := b + 1) (by omega) (by omega)]
      refine ⟨fun c => ?_, fun c => ?_⟩
      · have hB : teB d w b l ∧ 0 ≤ teA d w (teRest d l b) := Classical.byContradiction (fun z => c (hr0 z))
        have rb := teRest_bd hk b0 hb (by omega) (by omega) hB.1
        have ab := teA_b hk (w := w) rb.1 (by omega)
        have e := hT2 _ rb.1 rb.2
        unfold teRest at e rb
        rw [hr2.2.2.1, hr2.2.2.2, e, hV]
        unfold teRest at hB ab nx
        rw [jw_id (by omega) (by omega)]
        have up : ∀ v, (teV d w (teA d w) l (b + 1).toNat).1 = v → GL iX11_award (jup m2 215 l v) 54 [(2, 139), (9, 0), (0, w), (0, all), (0, l), (0, b + 1), (9, 0)] [] Q := fun v hv => K2 _ ⟨by omega, by omega, fr_up hf2 (by decide), fun x x0 x1 => by rw [jup_self, if_neg (by omega)]; exact hT2 x x0 x1, by rw [jup_self, if_pos rfl, hv]⟩
        refine ⟨b0, by omega, rb.1, by omega, b0, by omega, by omega, by omega, fun c1 => ⟨by omega, by omega, up _ ?_⟩, fun c1 => ⟨by omega, by omega, fun c2 => K2 m2 ⟨by omega, by omega, hf2, hT2, ?_⟩, fun c2 => ⟨by omega, by omega, up _ ?_⟩⟩⟩
        · rw [nx, if_pos ⟨hB.1, hB.2, Or.inl c1⟩]
        · rw [nx, if_neg (fun z => z.2.2.elim c1 (fun z => by omega))]; exact hV
        · rw [nx, if_pos ⟨hB.1, hB.2, Or.inr (by omega)⟩]
      · have hB : ¬ (teB d w b l ∧ 0 ≤ teA d w (teRest d l b)) := fun z => c (by rw [hr1 z]; decide)
        exact K2 m2 ⟨by omega, by omega, hf2, hT2, by rw [nx, if_neg (fun z => hB ⟨z.1, z.2.1⟩)]; exact hV⟩
    · rintro b m2 hb ⟨b0, b1, hf2, hT2, hV⟩
      obtain rfl : b = d 139 52 := by omega
      have e1 : m2 139 52 = d 139 52 := by rw [hf2 139 (by decide)]; exact hr.1
      refine sX11_award_54 ⟨fun _ => ?_, fun c => absurd (by rw [e1]; exact Int.le_refl _) c⟩
      rw [jw_id (x := l + 1) (by omega) (by omega)]
      refine K m2 ⟨by omega, by omega, hf2, fun x x0 x1 => ?_⟩
      by_cases e : x = l
      · rw [e, hV, ← teA_eq hk (by omega) (by omega)]
      · exact hT2 x x0 (by omega)
  · rintro l m1 hl ⟨l0, l1, hf, hT⟩
    obtain rfl : l = all + 1 := by omega
    have e := hT all (by omega) (by omega)
    have hb := teA_b hk (w := w) (l := all) (by omega) (by omega)
    have q := hQ m1 (by omega) (by omega) (by omega) (by omega) hf (fun x x0 x1 => hT x x0 (by omega))
    refine sX11_award_37 ⟨fun _ => ⟨by omega, by omega, fun c => ⟨by omega, by omega, ?_⟩, fun c => ?_⟩, fun c => absurd (by omega) c⟩
    · rw [e] at c ⊢
      rw [if_neg (by omega)] at q
      exact q
    · rw [e] at c
      rw [if_pos (by omega)] at q
      exact q
  · obtain rfl : x = 0 := by omega
    rw [jup_self, if_pos rfl]
    rfl
