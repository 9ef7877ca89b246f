/-! tables made by a step from below -/
def wfT {α : Type} (z : α) (st : (Int → α) → Int → α) : Nat → Int → α
  | 0 => fun _ => z
  | k + 1 => fun x => if x = ((k + 1 : Nat) : Int) then st (wfT z st k) x else wfT z st k x
def wfA {α : Type} (z : α) (st : (Int → α) → Int → α) (x : Int) : α := wfT z st x.toNat x
theorem wfT_le {α : Type} (z : α) (st : (Int → α) → Int → α) : ∀ (k : Nat) (x : Int), 0 ≤ x → x ≤ k → wfT z st k x = wfA z st x := by
  intro k
  induction k with
  | zero =>
    intro x h0 h1
    obtain rfl : x = 0 := by omega
    rfl
  | succ k ih =>
    intro x h0 h1
    by_cases e : x = ((k + 1 : Nat) : Int)
    · subst e; unfold wfA; rw [Int.toNat_natCast]
    · simp only [wfT]; rw [if_neg e]; exact ih x h0 (by omega)
theorem wfA_eq {α : Type} {z : α} {st : (Int → α) → Int → α} {x : Int} (h0 : 0 < x) (hc : ∀ T T' : Int → α, (∀ y, 0 ≤ y → y < x → T y = T' y) → st T x = st T' x) : wfA z st x = st (wfA z st) x := by
  have e : x.toNat = (x.toNat - 1) + 1 := by omega
  show wfT z st x.toNat x = _
  rw [e]
  simp only [wfT]
  rw [if_pos (by omega)]
  exact hc _ _ (fun y y0 y1 => wfT_le z st _ y y0 (by omega))
/-! sets of six -/
theorem dl64 : ∀ x : Fin 64, ∀ j : Fin 6, tb ((x : Nat) : Int) ((j : Nat) : Int) = true → jxor ((x : Nat) : Int) (jshl 1 ((j : Nat) : Int)) = ((x : Nat) : Int) - 2 ^ (j : Nat) ∧ 0 ≤ ((x : Nat) : Int) - 2 ^ (j : Nat) ∧ ((x : Nat) : Int) - 2 ^ (j : Nat) < ((x : Nat) : Int) ∧ cnt (((x : Nat) : Int) - 2 ^ (j : Nat)) 6 + 1 = cnt ((x : Nat) : Int) 6 ∧ ∀ i : Fin 6, tb (((x : Nat) : Int) - 2 ^ (j : Nat)) ((i : Nat) : Int) = (tb ((x : Nat) : Int) ((i : Nat) : Int) && !decide (((i : Nat) : Int) = ((j : Nat) : Int))) := by decide +kernel
theorem dl_in {x j : Int} (x0 : 0 ≤ x) (x1 : x < 64) (j0 : 0 ≤ j) (j1 : j < 6) (h : tb x j = true) : jxor x (jshl 1 j) = x - 2 ^ j.toNat ∧ 0 ≤ x - 2 ^ j.toNat ∧ x - 2 ^ j.toNat < x ∧ cnt (x - 2 ^ j.toNat) 6 + 1 = cnt x 6 ∧ ∀ i, 0 ≤ i → i < 6 → tb (x - 2 ^ j.toNat) i = (tb x i && !decide (i = j)) := by
  have := dl64 ⟨x.toNat, by omega⟩ ⟨j.toNat, by omega⟩
  simp only [Int.toNat_of_nonneg x0, Int.toNat_of_nonneg j0] at this
  obtain ⟨a, b, c, d, e⟩ := this h
  refine ⟨a, b, c, d, fun i i0 i1 => ?_⟩
  have := e ⟨i.toNat, by omega⟩
  simp only [Int.toNat_of_nonneg i0] at this
  exact this
theorem cnt64 : ∀ x : Fin 64, cnt ((x : Nat) : Int) 6 ≤ 0 → ((x : Nat) : Int) = 0 := by decide +kernel
theorem cnt_0 {x : Int} (x0 : 0 ≤ x) (x1 : x < 64) (h : cnt x 6 ≤ 0) : x = 0 := by
  have := cnt64 ⟨x.toNat, by omega⟩
  simp only [Int.toNat_of_nonneg x0] at this
  exact this h
/-- the least of f over a set; the first that has it -/
def mnF (s : Int) (f : Int → Int) : Nat → Int
  | 0 => 268435456
  | j + 1 => if tb s j = true then min (mnF s f j) (f j) else mnF s f j
def agF (s : Int) (f : Int → Int) : Nat → Int
  | 0 => -1
  | j + 1 => if tb s j = true ∧ f j < mnF s f j then (j : Int) else agF s f j
theorem mnF_no (s : Int) (f : Int → Int) : ∀ n, mnF s f n ≤ 268435456 := by
  intro n
  induction n with
  | zero => exact Int.le_refl _
  | succ n ih =>
    simp only [mnF]
    split <;> omega
theorem mnF_nn {s : Int} {f : Int → Int} : ∀ n : Nat, (∀ j : Int, 0 ≤ j → j < n → tb s j = true → 0 ≤ f j) → 0 ≤ mnF s f n := by
  intro n
  induction n with
  | zero =>
    intro h
    show (0 : Int) ≤ 268435456
    decide
  | succ n ih =>
    intro h
    have := ih (fun j j0 j1 => h j j0 (by omega))
    simp only [mnF]
    split
    · have := h n (by omega) (by omega) (by assumption)
      omega
    · exact this
theorem mnF_cg {s : Int} {f g : Int → Int} : ∀ n : Nat, (∀ j : Int, 0 ≤ j → j < n → tb s j = true → f j = g j) → mnF s f n = mnF s g n ∧ agF s f n = agF s g n := by
  intro n
  induction n with
  | zero => intro h; exact ⟨rfl, rfl⟩
  | succ n ih =>
    intro h
    have ih := ih (fun j j0 j1 => h j j0 (by omega))
    simp only [mnF, agF]
    rw [ih.1, ih.2]
    by_cases e : tb s n = true
    · rw [h n (by omega) (by omega) e]
      exact ⟨rfl, rfl⟩
    · rw [if_neg e, if_neg e, if_neg (fun z => e z.1), if_neg (fun z => e z.1)]
      exact ⟨rfl, rfl⟩
theorem mnF_le {s : Int} {f : Int → Int} : ∀ (n : Nat) (j : Int), 0 ≤ j → j < n → tb s j = true → mnF s f n ≤ f j := by
  intro n
  induction n with
  | zero => intro j j0 j1; omega
  | succ n ih =>
    intro j j0 j1 h
    simp only [mnF]
    by_cases e : j = n
    · rw [← e, if_pos h, e]; omega
    · have := ih j j0 (by omega) h
      split <;> omega
theorem agF_ok {s : Int} {f : Int → Int} : ∀ n : Nat, (mnF s f n < 268435456 → 0 ≤ agF s f n ∧ agF s f n < n ∧ tb s (agF s f n) = true ∧ f (agF s f n) = mnF s f n) ∧ (∀ j, 0 ≤ j → j < agF s f n → tb s j = true → mnF s f n < f j) ∧ -1 ≤ agF s f n := by
  intro n
  induction n with
  | zero => exact ⟨fun h => by simp only [mnF] at h; omega, fun j j0 j1 => by simp only [agF] at j1; omega, by simp only [agF]; omega⟩
  | succ n ih =>
    simp only [mnF, agF]
    by_cases e : tb s n = true
    · rw [if_pos e]
      by_cases h : f n < mnF s f n
      · rw [if_pos ⟨e, h⟩]
        refine ⟨fun _ => ⟨by omega, by omega, e, by omega⟩, fun j j0 j1 hj => ?_, by omega⟩
        have := mnF_le n j j0 j1 hj (f := f)
        omega
      · rw [if_neg (fun z => h z.2), show min (mnF s f n) (f n) = mnF s f n by omega]
        exact ⟨fun z => ⟨(ih.1 z).1, by have := (ih.1 z).2.1; omega, (ih.1 z).2.2⟩, ih.2.1, ih.2.2⟩
    · rw [if_neg e, if_neg (fun z => e z.1)]
      exact ⟨fun z => ⟨(ih.1 z).1, by have := (ih.1 z).2.1; omega, (ih.1 z).2.2⟩, ih.2.1, ih.2.2⟩
/-! routes -/
noncomputable def rL (V : jM) (a b : Int) : Int := if a = -1 then 0 else enc (vD V 2 (V 8 a) (V 8 b))
noncomputable def rS (V : jM) (s a : Int) : Int := enc (vD V 2 (V 8 a) (V 6 s))
/-- by the set that is left and the stop ahead (-1: none): the least minutes to the school -/
noncomputable def bhS (V : jM) : (Int → Int → Int) → Int → Int → Int := fun T x i => mnF x (fun j => rL V i j + T (x - 2 ^ j.toNat) j) 6
noncomputable def bh (V : jM) (s x i : Int) : Int := wfA (fun i => rS V s i) (bhS V) x i
theorem bhS_cg {V : jM} {x : Int} (x0 : 0 < x) (x1 : x < 64) (T T' : Int → Int → Int) (h : ∀ y, 0 ≤ y → y < x → T y = T' y) : bhS V T x = bhS V T' x := by
  funext i
  unfold bhS
  refine (mnF_cg 6 (fun j j0 j1 hj => ?_)).1
  have d := dl_in (by omega) x1 j0 (by omega) hj
  rw [h _ d.2.1 d.2.2.1]
theorem bh_eq {V : jM} {s x i : Int} (x0 : 0 < x) (x1 : x < 64) : bh V s x i = mnF x (fun j => rL V i j + bh V s (x - 2 ^ j.toNat) j) 6 := by
  unfold bh
  rw [wfA_eq x0 (bhS_cg x0 x1)]
  rfl
theorem bh_0 {V : jM} {s i : Int} : bh V s 0 i = rS V s i := rfl
theorem rL_bd {V : jM} (h : vKt V) (a b : Int) : 0 ≤ rL V a b ∧ rL V a b ≤ 268435456 := by
  have := enc_bd h 2 (V 8 a) (V 8 b)
  unfold rL
  split <;> omega
theorem rS_bd {V : jM} (h : vKt V) (s a : Int) : 0 ≤ rS V s a ∧ rS V s a ≤ 268435456 := enc_bd h 2 (V 8 a) (V 6 s)
theorem bh_bd {V : jM} (h : vKt V) (s : Int) : ∀ (n : Nat) (x : Int), x < n → 0 ≤ x → x < 64 → ∀ i, 0 ≤ bh V s x i ∧ bh V s x i ≤ 268435456 := by
  intro n
  induction n with
  | zero => intro x h1 h2; omega
  | succ n ih =>
    intro x h1 h2 h3 i
    by_cases e : x = 0
    · rw [e, bh_0]; exact rS_bd h s i
    · rw [bh_eq (by omega) h3]
      refine ⟨mnF_nn 6 (fun j j0 j1 hj => ?_), mnF_no _ _ _⟩
      have d := dl_in h2 h3 j0 (by omega) hj
      have := (ih (x - 2 ^ j.toNat) (by omega) d.2.1 (by omega) j).1
      have := (rL_bd h i j).1
      omega
theorem bh_in {V : jM} (h : vKt V) (s : Int) {x : Int} (x0 : 0 ≤ x) (x1 : x < 64) (i : Int) : 0 ≤ bh V s x i ∧ bh V s x i ≤ 268435456 := bh_bd h s 64 x (by omega) x0 x1 i
/-- the next stop -/
noncomputable def rN (V : jM) (s x i : Int) : Int := agF x (fun j => rL V i j + bh V s (x - 2 ^ j.toNat) j) 6
noncomputable def rR (V : jM) (s : Int) : Nat → Int → Int → List Int
  | 0, _, _ => []
  | n + 1, x, i => if x = 0 then [] else rN V s x i :: rR V s n (x - 2 ^ (rN V s x i).toNat) (rN V s x i)
theorem rN_in {V : jM} {s x i : Int} (x0 : 0 < x) (x1 : x < 64) (h : bh V s x i < 268435456) : 0 ≤ rN V s x i ∧ rN V s x i < 6 ∧ tb x (rN V s x i) = true ∧ rL V i (rN V s x i) + bh V s (x - 2 ^ (rN V s x i).toNat) (rN V s x i) = bh V s x i := by
  rw [bh_eq x0 x1] at h ⊢
  have := (agF_ok (s := x) (f := fun j => rL V i j + bh V s (x - 2 ^ j.toNat) j) 6).1 h
  exact ⟨this.1, this.2.1, this.2.2.1, this.2.2.2⟩
noncomputable def cE (V : jM) (s : Int) : Int → List Int → Int
  | i, [] => rS V s i
  | i, j :: t => rL V i j + cE V s j t
theorem cE_nn {V : jM} (h : vKt V) (s : Int) : ∀ (l : List Int) (i : Int), 0 ≤ cE V s i l := by
  intro l
  induction l with
  | nil => intro i; exact (rS_bd h s i).1
  | cons j t ih =>
    intro i
    have := ih j
    have := (rL_bd h i j).1
    simp only [cE]
    omega
/-- all orders of a set, the first by numbers first -/
def pl : Nat → Int → List (List Int)
  | 0, _ => [[]]
  | n + 1, x => if x = 0 then [[]] else (List.range 6).flatMap (fun (j : Nat) => if tb x j = true then (pl n (x - 2 ^ j)).map (fun t => (j : Int) :: t) else [])
def stp (c : List Int → Int) (f : List Int → List Int) (a : Int × List Int) (x : List Int) : Int × List Int := if c x < a.1 then (c x, f x) else a
theorem fold_pl {V : jM} (h : vKt V) (s : Int) : ∀ (n : Nat) (x i d : Int) (f : List Int → List Int) (a : Int × List Int), cnt x 6 ≤ n → 0 ≤ x → x < 64 → 0 ≤ d → a.1 ≤ 268435456 → (pl n x).foldl (stp (fun t => d + cE V s i t) f) a = if d + bh V s x i < a.1 then (d + bh V s x i, f (rR V s n x i)) else a := by
  intro n
  induction n with
  | zero =>
    intro x i d f a hc x0 x1 d0 ha
    obtain rfl := cnt_0 x0 x1 hc
    rfl
  | succ n ih =>
    intro x i d f a hc x0 x1 d0 ha
    by_cases e : x = 0
    · subst e; rfl
    · simp only [pl, rR]
      rw [if_neg e, if_neg e]
      generalize hφ : (fun j => rL V i j + bh V s (x - 2 ^ j.toNat) j) = φ
      have key : ∀ J : Nat, J ≤ 6 → ((List.range J).flatMap (fun (j : Nat) => if tb x j = true then (pl n (x - 2 ^ j)).map (fun t => (j : Int) :: t) else [])).foldl (stp (fun t => d + cE V s i t) f) a = if d + mnF x φ J < a.1 then (d + mnF x φ J, f (agF x φ J :: rR V s n (x - 2 ^ (agF x φ J).toNat) (agF x φ J))) else a := by
        intro J
        induction J with
        | zero =>
          intro _
          have hm : mnF x φ 0 = 268435456 := rfl
          rw [if_neg (by omega)]
          rfl
        | succ J ihJ =>
          intro hJ
          rw [List.range_succ, List.flatMap_append, List.foldl_append, ihJ (by omega), List.flatMap_singleton]
          have hm0 : mnF x φ (J + 1) = if tb x J = true then min (mnF x φ J) (φ J) else mnF x φ J := rfl
          have ha0 : agF x φ (J + 1) = if tb x J = true ∧ φ J < mnF x φ J then (J : Int) else agF x φ J := rfl
          by_cases hb : tb x J = true
          · rw [if_pos hb] at hm0
            rw [if_pos hb, List.foldl_map]
            have d1 := dl_in x0 x1 (j := (J : Int)) (by omega) (by omega) hb
            rw [Int.toNat_natCast] at d1
            have hφJ : φ J = rL V i J + bh V s (x - 2 ^ J) J := by
              rw [← hφ]
              show rL V i J + bh V s (x - 2 ^ ((J : Int)).toNat) J = _
              rw [Int.toNat_natCast]
            have hst : (fun (acc : Int × List Int) (t : List Int) => stp (fun t => d + cE V s i t) f acc ((J : Int) :: t)) = stp (fun t => (d + rL V i J) + cE V s J t) (fun t => f ((J : Int) :: t)) := by
              funext acc t
              unfold stp
              simp only [cE]
              rw [Int.add_assoc]
              rfl
            have l0 := (rL_bd h i J).1
            rw [hst]
            have hR1 : (if d + mnF x φ J < a.1 then (d + mnF x φ J, f (agF x φ J :: rR V s n (x - 2 ^ (agF x φ J).toNat) (agF x φ J))) else a).1 ≤ 268435456 := by
              split
              · show d + mnF x φ J ≤ 268435456
                omega
              · exact ha
            rw [ih (x - 2 ^ J) J (d + rL V i J) (fun t => f ((J : Int) :: t)) _ (by omega) d1.2.1 (by omega) (by omega) hR1]
            have e2 : d + rL V i J + bh V s (x - 2 ^ J) J = d + φ J := by rw [hφJ]; omega
            rw [e2]
            by_cases q : φ J < mnF x φ J
            · rw [if_pos (show tb x J = true ∧ φ J < mnF x φ J from ⟨hb, q⟩)] at ha0
              rw [ha0, hm0, show min (mnF x φ J) (φ J) = φ J by omega]
              simp only [Int.toNat_natCast]
              by_cases q2 : d + mnF x φ J < a.1
              · rw [if_pos q2]
                rw [if_pos (show d + φ J < (d + mnF x φ J, f (agF x φ J :: rR V s n (x - 2 ^ (agF x φ J).toNat) (agF x φ J))).1 by show d + φ J < d + mnF x φ J; omega), if_pos (by omega)]
              · rw [if_neg q2]
            · rw [if_neg (show ¬ (tb x J = true ∧ φ J < mnF x φ J) from fun z => q z.2)] at ha0
              rw [ha0, hm0, show min (mnF x φ J) (φ J) = mnF x φ J by omega]
              rw [if_neg]
              split
              · show ¬ (d + φ J < d + mnF x φ J)
                omega
              · omega
          · rw [if_neg hb] at hm0
            rw [if_neg (show ¬ (tb x J = true ∧ φ J < mnF x φ J) from fun z => hb z.1)] at ha0
            rw [if_neg hb, hm0, ha0]
            rfl
      rw [key 6 (by decide), bh_eq (by omega) x1, hφ]
      have hn : rN V s x i = agF x φ 6 := by unfold rN; rw [hφ]
      rw [hn]
/-! the orders as the reference goes through them -/
def fnL (l : List Int) : Int → Int := fun i => if 0 ≤ i then l.getD i.toNat 0 else 0
def sP (h : Int → Int) : Nat → Int
  | 0 => -1
  | i + 1 => if h ((i : Int) + 1) < h i then sP h i else (i : Int)
def sJ (h : Int → Int) (v : Int) : Nat → Int
  | 0 => 0
  | j + 1 => if h j < v then sJ h v j else (j : Int)
def swp (h : Int → Int) (a b : Int) : Int → Int := fun x => if x = b then h a else if x = a then h b else h x
def rvF : Nat → (Int → Int) → Int → Int → (Int → Int)
  | 0, h, _, _ => h
  | n + 1, h, a, b => if a < b then rvF n (swp h a b) (a + 1) (b - 1) else h
def nxF (h : Int → Int) (k : Nat) : Option (Int → Int) := if sP h (k - 1) < 0 then none else some (rvF 6 (swp h (sP h (k - 1)) (sJ h (h (sP h (k - 1))) k)) (sP h (k - 1) + 1) ((k : Int) - 1))
def eqF (k : Nat) (g h : Int → Int) : Bool := (List.range k).all (fun i => g i == h i)
def okL (s : Int) (k : Nat) (x : List Int) : Bool := x.length == k && x.all (fun j => decide (0 ≤ j) && decide (j < 6) && tb s j)
def chk (s : Int) (k : Nat) : List (List Int) → Bool
  | [] => false
  | [x] => okL s k x && (nxF (fnL x) k).isNone
  | x :: y :: r => okL s k x && (match nxF (fnL x) k with | some g => eqF k g (fnL y) | none => false) && chk s k (y :: r)
def bl (s : Int) : Nat → List Int
  | 0 => []
  | n + 1 => if tb s n = true then bl s n ++ [(n : Int)] else bl s n
theorem pl_chk : ∀ s : Fin 64, chk ((s : Nat) : Int) (bl ((s : Nat) : Int) 6).length (pl 6 ((s : Nat) : Int)) = true ∧ (pl 6 ((s : Nat) : Int)).head? = some (bl ((s : Nat) : Int) 6) ∧ (((bl ((s : Nat) : Int) 6).length : Nat) : Int) = cnt ((s : Nat) : Int) 6 := by decide +kernel
