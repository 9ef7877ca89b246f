/-! walks and least sums -/
abbrev jG : Type := Int → Int → Int → Prop
def walk (N : Int) (E : jG) : Nat → Int → Int → Int → Prop
  | 0, a, b, s => a = b ∧ 0 ≤ a ∧ a < N ∧ s = 0
  | k + 1, a, b, s => ∃ c s' l, walk N E k a c s' ∧ E c b l ∧ s = s' + l
def gOK (N : Int) (E : jG) : Prop := ∀ x y l, E x y l → 0 ≤ x ∧ x < N ∧ 0 ≤ y ∧ y < N ∧ 0 < l
theorem walk_nn {N : Int} {E : jG} (g : gOK N E) : ∀ {k : Nat} {a b s : Int}, walk N E k a b s → 0 ≤ s ∧ 0 ≤ a ∧ a < N ∧ 0 ≤ b ∧ b < N := by
  intro k
  induction k with
  | zero => rintro a b s ⟨rfl, h1, h2, rfl⟩; exact ⟨Int.le_refl _, h1, h2, h1, h2⟩
  | succ k ih =>
    rintro a b s ⟨c, s', l, h1, h2, rfl⟩
    obtain ⟨q1, q2, q3, -, -⟩ := ih h1
    obtain ⟨-, -, e3, e4, e5⟩ := g _ _ _ h2
    exact ⟨by omega, q2, q3, e3, e4⟩
theorem walk_app {N : Int} {E : jG} {k1 : Nat} {a b s1 : Int} (h1 : walk N E k1 a b s1) : ∀ {k2 : Nat} {c s2 : Int}, walk N E k2 b c s2 → walk N E (k1 + k2) a c (s1 + s2) := by
  intro k2
  induction k2 with
  | zero => rintro c s2 ⟨rfl, -, -, rfl⟩; rw [Int.add_zero]; exact h1
  | succ k ih =>
    rintro c s2 ⟨d, s', l, q1, q2, rfl⟩
    exact ⟨d, s1 + s', l, ih q1, q2, by omega⟩
theorem walk_one {N : Int} {E : jG} (g : gOK N E) {a b l : Int} (h : E a b l) : walk N E 1 a b l := ⟨a, 0, l, ⟨rfl, (g _ _ _ h).1, (g _ _ _ h).2.1, rfl⟩, h, by omega⟩
theorem walk_cons {N : Int} {E : jG} (g : gOK N E) {k : Nat} {a c b l s : Int} (h : E a c l) (h2 : walk N E k c b s) : walk N E (1 + k) a b (l + s) := walk_app (walk_one g h) h2
theorem walk_uncons {N : Int} {E : jG} (g : gOK N E) : ∀ {k : Nat} {a b s : Int}, walk N E (k + 1) a b s → ∃ c l s', E a c l ∧ walk N E k c b s' ∧ s = l + s' := by
  intro k
  induction k with
  | zero =>
    rintro a b s ⟨c, s', l, ⟨rfl, h1, h2, rfl⟩, h3, rfl⟩
    exact ⟨b, l, 0, h3, ⟨rfl, (g _ _ _ h3).2.2.1, (g _ _ _ h3).2.2.2.1, rfl⟩, by omega⟩
  | succ k ih =>
    rintro a b s ⟨c, s', l, h1, h3, rfl⟩
    obtain ⟨d, l2, s2, e1, e2, rfl⟩ := ih h1
    exact ⟨d, l2, s2 + l, e1, ⟨c, s2, l, e2, h3, rfl⟩, by omega⟩
theorem walk_rev {N : Int} {E : jG} (g : gOK N E) (hs : ∀ x y l, E x y l → E y x l) : ∀ {k : Nat} {a b s : Int}, walk N E k a b s → walk N E k b a s := by
  intro k
  induction k with
  | zero => rintro a b s ⟨rfl, h1, h2, rfl⟩; exact ⟨rfl, h1, h2, rfl⟩
  | succ k ih =>
    rintro a b s ⟨c, s', l, h1, h3, rfl⟩
    have := walk_cons g (hs _ _ _ h3) (ih h1)
    rw [Nat.add_comm, Int.add_comm] at this
    exact this
theorem walk_fun {N : Int} {E : jG} : ∀ {k : Nat} {a b s : Int}, walk N E k a b s → ∃ v c : Nat → Int, v 0 = a ∧ v k = b ∧ c 0 = 0 ∧ c k = s ∧ (0 ≤ a ∧ a < N) ∧ ∀ i, i < k → E (v i) (v (i + 1)) (c (i + 1) - c i) := by
  intro k
  induction k with
  | zero => rintro a b s ⟨rfl, h1, h2, rfl⟩; exact ⟨fun _ => a, fun _ => 0, rfl, rfl, rfl, rfl, ⟨h1, h2⟩, fun i hi => by omega⟩
  | succ k ih =>
    rintro a b s ⟨d, s', l, h1, h3, rfl⟩
    obtain ⟨v, c, v0, vk, c0, ck, ha, he⟩ := ih h1
    refine ⟨fun i => if i ≤ k then v i else b, fun i => if i ≤ k then c i else s' + l, by simp [v0], by simp only [show ¬ (k + 1 ≤ k) by omega, if_false], by simp [c0], by simp only [show ¬ (k + 1 ≤ k) by omega, if_false], ha, fun i hi => ?_⟩
    by_cases h : i < k
    · simp only [show i ≤ k by omega, show i + 1 ≤ k by omega, if_true]
      exact he i h
    · obtain rfl : i = k := by omega
      simp only [Nat.le_refl, if_true, show ¬ i + 1 ≤ i by omega, if_false]
      rw [vk, ck, show s' + l - s' = l by omega]
      exact h3
theorem fun_walk {N : Int} {E : jG} (g : gOK N E) {k : Nat} {v c : Nat → Int} (h : ∀ i, i < k → E (v i) (v (i + 1)) (c (i + 1) - c i)) : ∀ (d i : Nat), i + d ≤ k → 0 ≤ v i ∧ v i < N → walk N E d (v i) (v (i + d)) (c (i + d) - c i) := by
  intro d
  induction d with
  | zero => intro i hi h2; exact ⟨rfl, h2.1, h2.2, by simp⟩
  | succ d ih =>
    intro i hi h2
    exact ⟨v (i + d), c (i + d) - c i, c (i + d + 1) - c (i + d), ih i (by omega) h2, h (i + d) (by omega), by rw [show i + (d + 1) = i + d + 1 by omega]; omega⟩
theorem pigeon : ∀ (n : Nat) (f : Nat → Int), (∀ i, i ≤ n → 0 ≤ f i ∧ f i < n) → ∃ i j, i < j ∧ j ≤ n ∧ f i = f j := by
  intro n
  induction n with
  | zero => intro f h; have := h 0 (Nat.le_refl _); omega
  | succ n ih =>
    intro f h
    by_cases hx : ∃ i, i < n + 1 ∧ f i = f (n + 1)
    · obtain ⟨i, h1, h2⟩ := hx
      exact ⟨i, n + 1, h1, Nat.le_refl _, h2⟩
    · have hne : ∀ i, i ≤ n → f i ≠ f (n + 1) := fun i hi e => hx ⟨i, by omega, e⟩
      have hl := h (n + 1) (Nat.le_refl _)
      obtain ⟨i, j, h1, h2, h3⟩ := ih (fun i => if f i > f (n + 1) then f i - 1 else f i) (fun i hi => by
        have := h i (by omega)
        have := hne i hi
        split <;> omega)
      refine ⟨i, j, h1, by omega, ?_⟩
      have := hne i (by omega)
      have := hne j (by omega)
      split at h3 <;> split at h3 <;> omega
theorem shorten1 {n : Nat} {E : jG} (g : gOK n E) {k : Nat} {a b s : Int} (h : walk n E k a b s) (hk : n ≤ k) : ∃ k' s', k' < k ∧ s' ≤ s ∧ walk n E k' a b s' := by
  obtain ⟨v, c, rfl, rfl, c0, rfl, ha, he⟩ := walk_fun h
  have hv : ∀ i, i ≤ k → 0 ≤ v i ∧ v i < n := by
    intro i hi
    cases i with
    | zero => exact ha
    | succ i => exact ⟨(g _ _ _ (he i (by omega))).2.2.1, (g _ _ _ (he i (by omega))).2.2.2.1⟩
  obtain ⟨i, j, h1, h2, h3⟩ := pigeon n v (fun i hi => hv i (by omega))
  have w1 := fun_walk g he i 0 (by omega) (hv 0 (by omega))
  have w2 := fun_walk g he (j - i) i (by omega) (hv i (by omega))
  have w3 := fun_walk g he (k - j) j (by omega) (hv j (by omega))
  rw [Nat.zero_add] at w1
  rw [show i + (j - i) = j by omega] at w2
  rw [show j + (k - j) = k by omega, ← h3] at w3
  have := (walk_nn g w2).1
  exact ⟨i + (k - j), _, by omega, by omega, walk_app w1 w3⟩
theorem shorten {n : Nat} {E : jG} (g : gOK n E) : ∀ (k : Nat) {a b s : Int}, walk n E k a b s → ∃ k' s', k' < n ∧ s' ≤ s ∧ walk n E k' a b s' := by
  intro k
  induction k using Nat.strongRecOn with
  | ind k ih =>
    intro a b s h
    by_cases hk : n ≤ k
    · obtain ⟨k', s', h1, h2, h3⟩ := shorten1 g h hk
      obtain ⟨k2, s2, e1, e2, e3⟩ := ih k' h1 h3
      exact ⟨k2, s2, e1, by omega, e3⟩
    · exact ⟨k, s, by omega, Int.le_refl _, h⟩
def isD (N : Int) (E : jG) (a b v : Int) : Prop := (∃ k, walk N E k a b v) ∧ ∀ k s, walk N E k a b s → v ≤ s
def DV (N : Int) (E : jG) (a b v : Int) : Prop := (v = -1 ∧ ∀ k s, ¬ walk N E k a b s) ∨ isD N E a b v
theorem isD_nn {N : Int} {E : jG} (g : gOK N E) {a b v : Int} (h : isD N E a b v) : 0 ≤ v := by
  obtain ⟨⟨k, h1⟩, -⟩ := h
  exact (walk_nn g h1).1
theorem DV_ge {N : Int} {E : jG} (g : gOK N E) {a b v : Int} (h : DV N E a b v) : -1 ≤ v := by
  rcases h with h | h
  · omega
  · have := isD_nn g h; omega
theorem DV_un {N : Int} {E : jG} (g : gOK N E) {a b v v' : Int} (h : DV N E a b v) (h' : DV N E a b v') : v = v' := by
  rcases h with ⟨e, h⟩ | h
  · rcases h' with ⟨e', h'⟩ | ⟨⟨k, h'⟩, -⟩
    · omega
    · exact absurd h' (h k v')
  · rcases h' with ⟨e', h'⟩ | h'
    · obtain ⟨⟨k, h⟩, -⟩ := h
      exact absurd h (h' k v)
    · obtain ⟨⟨k, h1⟩, h2⟩ := h
      obtain ⟨⟨k', h1'⟩, h2'⟩ := h'
      have := h2 _ _ h1'
      have := h2' _ _ h1
      omega
theorem least_nat {P : Nat → Prop} : ∀ n, P n → ∃ m, P m ∧ ∀ q, P q → m ≤ q := by
  intro n
  induction n using Nat.strongRecOn with
  | ind n ih =>
    intro h
    by_cases hx : ∃ m, m < n ∧ P m
    · obtain ⟨m, h1, h2⟩ := hx
      exact ih m h1 h2
    · exact ⟨n, h, fun q hq => Nat.not_lt.mp (fun z => hx ⟨q, z, hq⟩)⟩
theorem DV_ex {N : Int} {E : jG} (g : gOK N E) (a b : Int) : ∃ v, DV N E a b v := by
  by_cases h : ∃ k s, walk N E k a b s
  · obtain ⟨k, s, h⟩ := h
    have hs := (walk_nn g h).1
    obtain ⟨m, ⟨k', h1⟩, h2⟩ := least_nat (P := fun n => ∃ k, walk N E k a b (n : Int)) s.toNat ⟨k, by rwa [Int.toNat_of_nonneg hs]⟩
    refine ⟨m, Or.inr ⟨⟨k', h1⟩, fun q s' hq => ?_⟩⟩
    have := (walk_nn g hq).1
    have := h2 s'.toNat ⟨q, by rwa [Int.toNat_of_nonneg this]⟩
    omega
  · exact ⟨-1, Or.inl ⟨rfl, fun k s hw => h ⟨k, s, hw⟩⟩⟩
noncomputable def dst (N : Int) (E : jG) (a b : Int) : Int := @dite _ (∃ v, DV N E a b v) (Classical.propDecidable _) (fun h => Classical.choose h) (fun _ => -1)
theorem dst_DV {N : Int} {E : jG} (g : gOK N E) (a b : Int) : DV N E a b (dst N E a b) := by
  have h := DV_ex g a b
  unfold dst
  rw [dif_pos h]
  exact Classical.choose_spec h
theorem dst_eq {N : Int} {E : jG} (g : gOK N E) {a b v : Int} (h : DV N E a b v) : dst N E a b = v := DV_un g (dst_DV g a b) h
theorem dst_ge {N : Int} {E : jG} (g : gOK N E) (a b : Int) : -1 ≤ dst N E a b := DV_ge g (dst_DV g a b)
theorem dst_le {N : Int} {E : jG} (g : gOK N E) {k : Nat} {a b s : Int} (h : walk N E k a b s) : 0 ≤ dst N E a b ∧ dst N E a b ≤ s := by
  rcases dst_DV g a b with ⟨-, h2⟩ | h2
  · exact absurd h (h2 k s)
  · exact ⟨isD_nn g h2, h2.2 k s h⟩
theorem dst_walk {N : Int} {E : jG} (g : gOK N E) {a b : Int} (h : dst N E a b ≠ -1) : ∃ k, walk N E k a b (dst N E a b) := by
  rcases dst_DV g a b with ⟨e, -⟩ | h2
  · exact absurd e h
  · exact h2.1
theorem dst_self {N : Int} {E : jG} (g : gOK N E) {a : Int} (h0 : 0 ≤ a) (h : a < N) : dst N E a a = 0 := by
  have := dst_le g (show walk N E 0 a a 0 from ⟨rfl, h0, h, rfl⟩)
  omega
theorem dst_out {N : Int} {E : jG} (g : gOK N E) {a b : Int} (h : ¬ (0 ≤ a ∧ a < N ∧ 0 ≤ b ∧ b < N)) : dst N E a b = -1 := dst_eq g (Or.inl ⟨rfl, fun _ _ hw => h (walk_nn g hw).2⟩)
theorem dst_sym {N : Int} {E : jG} (g : gOK N E) (hs : ∀ x y l, E x y l → E y x l) (a b : Int) : dst N E a b = dst N E b a := by
  refine dst_eq g ?_
  rcases dst_DV g b a with ⟨e, h⟩ | ⟨⟨k, h1⟩, h2⟩
  · exact Or.inl ⟨e, fun k s hw => h k s (walk_rev g hs hw)⟩
  · exact Or.inr ⟨⟨k, walk_rev g hs h1⟩, fun k s hw => h2 k s (walk_rev g hs hw)⟩
theorem dst_tri {N : Int} {E : jG} (g : gOK N E) {a c b l : Int} (h : E c b l) (h2 : dst N E a c ≠ -1) : dst N E a b ≠ -1 ∧ dst N E a b ≤ dst N E a c + l := by
  obtain ⟨k, hw⟩ := dst_walk g h2
  have := dst_le g (show walk N E (k + 1) a b (dst N E a c + l) from ⟨c, _, l, hw, h, rfl⟩)
  exact ⟨by omega, this.2⟩
/-- a least walk of at most n - 1 edges: its sum is below n times the dearest edge -/
theorem dst_bd {n : Nat} {E : jG} (g : gOK n E) {L : Int} (hL : ∀ x y l, E x y l → l ≤ L) (a b : Int) (h0 : 0 < n) (hl : 0 ≤ L) : dst n E a b ≤ ((n : Int) - 1) * L := by
  have hw : ∀ (k : Nat) (a b s : Int), walk n E k a b s → s ≤ (k : Int) * L := by
    intro k
    induction k with
    | zero => rintro a b s ⟨-, -, -, rfl⟩; simp
    | succ k ih =>
      rintro a b s ⟨c, s', l, h1, h2, rfl⟩
      have := ih _ _ _ h1
      have := hL _ _ _ h2
      rw [show ((k + 1 : Nat) : Int) * L = (k : Int) * L + L by rw [Int.natCast_add, Int.add_mul]; simp]
      omega
  by_cases h : dst n E a b = -1
  · have : 0 ≤ ((n : Int) - 1) * L := Int.mul_nonneg (by omega) hl
    omega
  · obtain ⟨k, q⟩ := dst_walk g h
    obtain ⟨k', s', h1, h2, h3⟩ := shorten g k q
    have q2 := (dst_le g h3).2
    have q3 := hw _ _ _ _ h3
    have : (k' : Int) * L ≤ ((n : Int) - 1) * L := Int.mul_le_mul_of_nonneg_right (by omega) hl
    omega
/-! relaxing from one start: t holds sums of walks, or X where there is none yet -/
def bfS (N : Int) (E : jG) (a X : Int) (t : Int → Int) : Prop := ∀ b, 0 ≤ b → b < N → t b ≤ X ∧ (t b < X → ∃ k, walk N E k a b (t b))
def bfL (N : Int) (E : jG) (a : Int) (r : Nat) (t : Int → Int) : Prop := ∀ k b s, k ≤ r → walk N E k a b s → t b ≤ s
theorem bf_fix {N : Int} {E : jG} {a : Int} {t : Int → Int} (g : gOK N E) (h0 : t a ≤ 0) (h : ∀ x y l, E x y l → t y ≤ t x + l) : ∀ r, bfL N E a r t := by
  intro r k b s _ hw
  induction k generalizing b s with
  | zero => obtain ⟨rfl, -, -, rfl⟩ := hw; exact h0
  | succ k ih =>
    obtain ⟨c, s', l, h1, h2, rfl⟩ := hw
    have := ih c s' (by omega) h1
    have := h _ _ _ h2
    omega
theorem bf_next {N : Int} {E : jG} {a : Int} {r : Nat} {t u : Int → Int} (h0 : u a ≤ 0) (ht : bfL N E a r t) (h : ∀ x y l, E x y l → u y ≤ t x + l) : bfL N E a (r + 1) u := by
  intro k b s hk hw
  cases k with
  | zero => obtain ⟨rfl, -, -, rfl⟩ := hw; exact h0
  | succ k =>
    obtain ⟨c, s', l, h1, h2, rfl⟩ := hw
    have := ht k c s' (by omega) h1
    have := h _ _ _ h2
    omega
theorem bf_all {n : Nat} {E : jG} {a : Int} {t : Int → Int} (g : gOK n E) (h : bfL n E a n t) : ∀ r, bfL n E a r t := by
  intro r k b s _ hw
  obtain ⟨k', s', h1, h2, h3⟩ := shorten g k hw
  have := h k' b s' (by omega) h3
  omega
theorem bf_end {N : Int} {E : jG} {a X : Int} {t : Int → Int} (g : gOK N E) (hS : bfS N E a X t) (hL : ∀ r, bfL N E a r t) {b : Int} (h0 : 0 ≤ b) (hb : b < N) (hX : dst N E a b < X) (hX0 : X ≠ -1) : t b = if dst N E a b = -1 then X else dst N E a b := by
  have h1 := hS b h0 hb
  by_cases h : dst N E a b = -1
  · rw [if_pos h]
    by_cases h2 : t b < X
    · obtain ⟨k, hw⟩ := h1.2 h2
      have := dst_le g hw
      omega
    · omega
  · rw [if_neg h]
    obtain ⟨k, hw⟩ := dst_walk g h
    have h3 := hL k k b _ (Nat.le_refl _) hw
    obtain ⟨k', hw'⟩ := h1.2 (by omega)
    have := dst_le g hw'
    omega
/-! over middle places below K -/
def walkI (N K : Int) (E : jG) : Nat → Int → Int → Int → Prop
  | 0, a, b, s => a = b ∧ 0 ≤ a ∧ a < N ∧ s = 0
  | k + 1, a, b, s => ∃ c s' l, walkI N K E k a c s' ∧ (1 ≤ k → c < K) ∧ E c b l ∧ s = s' + l
theorem walkI_walk {N K : Int} {E : jG} : ∀ {k : Nat} {a b s : Int}, walkI N K E k a b s → walk N E k a b s := by
  intro k
  induction k with
  | zero => intro a b s h; exact h
  | succ k ih => rintro a b s ⟨c, s', l, h1, -, h2, e⟩; exact ⟨c, s', l, ih h1, h2, e⟩
theorem walkI_top {N : Int} {E : jG} (g : gOK N E) : ∀ {k : Nat} {a b s : Int}, walk N E k a b s → walkI N N E k a b s := by
  intro k
  induction k with
  | zero => intro a b s h; exact h
  | succ k ih => rintro a b s ⟨c, s', l, h1, h2, e⟩; exact ⟨c, s', l, ih h1, fun _ => (g _ _ _ h2).2.1, h2, e⟩
theorem walkI_split {N K : Int} {E : jG} (g : gOK N E) : ∀ {k : Nat} {a b s : Int}, walkI N (K + 1) E k a b s → walkI N K E k a b s ∨ ∃ k1 k2 s1 s2, walkI N K E k1 a K s1 ∧ walkI N K E k2 K b s2 ∧ s1 + s2 ≤ s := by
  intro k
  induction k with
  | zero => intro a b s h; exact Or.inl h
  | succ k ih =>
    rintro a b s ⟨c, s', l, h1, hc, h2, rfl⟩
    have hK := g _ _ _ h2
    by_cases hk : k = 0
    · subst hk
      exact Or.inl ⟨c, s', l, h1, fun h => absurd h (by decide), h2, rfl⟩
    · have hc := hc (by omega)
      rcases ih h1 with q | ⟨k1, k2, s1, s2, q1, q2, q3⟩
      · by_cases e : c = K
        · subst e
          exact Or.inr ⟨k, 1, s', l, q, ⟨c, 0, l, ⟨rfl, hK.1, hK.2.1, rfl⟩, fun h => absurd h (by decide), h2, by omega⟩, by omega⟩
        · exact Or.inl ⟨c, s', l, q, fun _ => by omega, h2, rfl⟩
      · by_cases e : c = K
        · subst e
          refine Or.inr ⟨k1, 1, s1, l, q1, ⟨c, 0, l, ⟨rfl, hK.1, hK.2.1, rfl⟩, fun h => absurd h (by decide), h2, by omega⟩, ?_⟩
          have := (walk_nn g (walkI_walk q2)).1
          omega
        · exact Or.inr ⟨k1, k2 + 1, s1, s2 + l, q1, ⟨c, s2, l, q2, fun _ => by omega, h2, rfl⟩, by omega⟩
/-- the table of least sums over middle places below K -/
def fwI (N K : Int) (E : jG) (M : Int → Int → Int) : Prop := (∀ a b, 0 ≤ a → a < 12 → 0 ≤ b → b < 12 → M a b = -1 ∨ (0 ≤ M a b ∧ ∃ k, walk N E k a b (M a b))) ∧ ∀ a b k s, walkI N K E k a b s → 0 ≤ M a b ∧ M a b ≤ s
theorem fw_end {N : Int} {E : jG} (g : gOK N E) {M : Int → Int → Int} (h : fwI N N E M) {a b : Int} (h0 : 0 ≤ a) (h1 : a < 12) (h2 : 0 ≤ b) (h3 : b < 12) : M a b = dst N E a b := by
  refine (dst_eq g ?_).symm
  rcases h.1 a b h0 h1 h2 h3 with e | ⟨q, k, hw⟩
  · refine Or.inl ⟨e, fun k s hw => ?_⟩
    have := h.2 a b k s (walkI_top g hw)
    omega
  · exact Or.inr ⟨⟨k, hw⟩, fun k s hw => (h.2 a b k s (walkI_top g hw)).2⟩
theorem fwI_mono {N K K' : Int} {E : jG} {M : Int → Int → Int} (g : gOK N E) (h : fwI N K E M) (h1 : N ≤ K) : fwI N K' E M := by
  refine ⟨h.1, fun a b k s hw => ?_⟩
  refine h.2 a b k s ?_
  have : ∀ {k : Nat} {a b s : Int}, walk N E k a b s → walkI N K E k a b s := by
    intro k
    induction k with
    | zero => intro a b s h; exact h
    | succ k ih => rintro a b s ⟨c, s', l, e1, e2, e⟩; exact ⟨c, s', l, ih e1, fun _ => by have := (g _ _ _ e2).2.1; omega, e2, e⟩
  exact this (walkI_walk hw)
/-- one round of the table: what it was at its beginning, and what it is -/
theorem fw_step {N K : Int} {E : jG} (g : gOK N E) {M c : Int → Int → Int} (h : fwI N K E M) (hK : 0 ≤ K ∧ K < 12) (hN : N ≤ 12) (hs : ∀ a b, 0 ≤ a → a < 12 → 0 ≤ b → b < 12 → c a b = -1 ∨ (0 ≤ c a b ∧ ∃ k, walk N E k a b (c a b))) (hc : ∀ a b, 0 ≤ a → a < 12 → 0 ≤ b → b < 12 → 0 ≤ M a b → 0 ≤ c a b ∧ c a b ≤ M a b) (hp : ∀ a b, 0 ≤ a → a < 12 → 0 ≤ b → b < 12 → 0 ≤ M a K → 0 ≤ M K b → 0 ≤ c a b ∧ c a b ≤ M a K + M K b) : fwI N (K + 1) E c := by
  refine ⟨hs, fun a b k s hw => ?_⟩
  have hr := walk_nn g (walkI_walk hw)
  rcases walkI_split g hw with q | ⟨k1, k2, s1, s2, q1, q2, q3⟩
  · have e1 := h.2 _ _ _ _ q
    have e2 := hc a b (by omega) (by omega) (by omega) (by omega) e1.1
    omega
  · have e1 := h.2 _ _ _ _ q1
    have e2 := h.2 _ _ _ _ q2
    have e3 := hp a b (by omega) (by omega) (by omega) (by omega) e1.1 e2.1
    omega
