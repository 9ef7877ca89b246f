/-! bytes into tokens -/
def isBl (c : Int) : Prop := c = 9 ∨ c = 10 ∨ c = 13 ∨ c = 32
def isLe (c : Int) : Prop := 97 ≤ c ∧ c ≤ 122
def isDi (c : Int) : Prop := 48 ≤ c ∧ c ≤ 57
/-- from p to e all are P, at e not -/
def isRun (B : Int → Int) (P : Int → Prop) (p e : Int) : Prop := p ≤ e ∧ (∀ q, p ≤ q → q < e → P (B q)) ∧ ¬ P (B e)
theorem isRun_1 {B : Int → Int} {P : Int → Prop} {p e e' : Int} (h : isRun B P p e) (h2 : isRun B P p e') : e = e' := by
  rcases Int.lt_trichotomy e e' with c | c | c
  · exact absurd (h2.2.1 e h.1 c) h.2.2
  · exact c
  · exact absurd (h.2.1 e' h2.1 c) h2.2.2
/-- letters, the last one first, as a number to a base -/
def vB (b : Int) : List Int → Int
  | [] => 0
  | c :: r => vB b r * b + c
def okW (l : List Int) : Prop := (∀ c ∈ l, 1 ≤ c ∧ c ≤ 26) ∧ l.length ≤ 8
theorem vB_pos {b : Int} (hb : 27 ≤ b) : ∀ {l : List Int}, (∀ c ∈ l, 1 ≤ c ∧ c ≤ 26) → 0 ≤ vB b l ∧ (l ≠ [] → 1 ≤ vB b l) := by
  intro l
  induction l with
  | nil => intro _; exact ⟨Int.le_refl _, fun h => absurd rfl h⟩
  | cons c r ih =>
    intro h
    have h1 := h c (by simp)
    have h2 := ih (fun x hx => h x (by simp [hx]))
    have : 0 ≤ vB b r * b := Int.mul_nonneg h2.1 (by omega)
    simp only [vB]
    exact ⟨by omega, fun _ => by omega⟩
theorem vB_inj {b : Int} (hb : 27 ≤ b) : ∀ {l k : List Int}, (∀ c ∈ l, 1 ≤ c ∧ c ≤ 26) → (∀ c ∈ k, 1 ≤ c ∧ c ≤ 26) → vB b l = vB b k → l = k := by
  intro l
  induction l with
  | nil =>
    intro k _ hk e
    cases k with
    | nil => rfl
    | cons c r =>
      have := (vB_pos hb hk).2 (by simp)
      rw [← e] at this
      exact absurd this (by show ¬ (1 : Int) ≤ 0; decide)
  | cons c r ih =>
    intro k hl hk e
    cases k with
    | nil =>
      have := (vB_pos hb hl).2 (by simp)
      rw [e] at this
      exact absurd this (by show ¬ (1 : Int) ≤ 0; decide)
    | cons d s =>
      simp only [vB] at e
      have hc := hl c (by simp)
      have hd := hk d (by simp)
      have e1 : c = d := by
        have : (vB b r * b + c) % b = (vB b s * b + d) % b := by rw [e]
        rw [Int.add_comm, Int.add_mul_emod_self_right, Int.add_comm (vB b s * b), Int.add_mul_emod_self_right, Int.emod_eq_of_lt (by omega) (by omega), Int.emod_eq_of_lt (by omega) (by omega)] at this
        exact this
      have e2 : vB b r = vB b s := by
        have : vB b r * b = vB b s * b := by omega
        exact Int.eq_of_mul_eq_mul_right (by omega) this
      rw [e1, ih (fun x hx => hl x (by simp [hx])) (fun x hx => hk x (by simp [hx])) e2]
theorem vB_lt {b : Int} (hb : 27 ≤ b) : ∀ {l : List Int}, (∀ c ∈ l, 1 ≤ c ∧ c ≤ 26) → vB b l < b ^ l.length := by
  intro l
  induction l with
  | nil => intro _; simp [vB]
  | cons c r ih =>
    intro h
    have h1 := h c (by simp)
    have h2 := ih (fun x hx => h x (by simp [hx]))
    simp only [vB, List.length_cons]
    rw [Int.pow_succ]
    have : (vB b r + 1) * b ≤ b ^ r.length * b := Int.mul_le_mul_of_nonneg_right (by omega) (by omega)
    rw [Int.add_mul] at this
    omega
/-- the words in the order of their kinds, the last letter first -/
def wdL : List (List Int) := [[5, 3, 1, 12, 16], [25, 1, 23], [12, 15, 15, 8, 3, 19], [16, 15, 20, 19], [20, 8, 7, 9, 18], [19, 20, 1, 5, 19], [5, 4, 9, 18], [11, 12, 1, 23], [9, 24, 1, 20], [5, 19, 18, 21, 14], [19, 21, 2], [20, 1], [4, 1, 2], [6, 9], [18, 15], [4, 14, 1], [20, 15, 14], [19, 19, 1, 12, 3], [19, 4, 5, 5, 14], [18, 1, 6], [5, 6, 1, 19], [25, 1, 4]]
def wd (i : Int) : List Int := wdL.getD i.toNat []
/-- the reference's numbers of words by their kinds -/
def wno (i : Int) : Int := ([0, 1, 3, 5, 6, 7, 9, 13, 14, 15, 16, 4, 2, 8, 12, 11, 10, 17, 18, 19, 20, 21] : List Int).getD i.toNat 0
theorem wd_ok : ∀ i : Fin 22, okW (wd ((i : Nat) : Int)) := by
  have : ∀ i : Fin 22, ((wd ((i : Nat) : Int)).all (fun c => decide (1 ≤ c ∧ c ≤ 26)) && decide ((wd ((i : Nat) : Int)).length ≤ 8)) = true := by decide +kernel
  intro i
  have h := this i
  rw [Bool.and_eq_true, List.all_eq_true] at h
  exact ⟨fun c hc => of_decide_eq_true (h.1 c hc), of_decide_eq_true h.2⟩
theorem wd_in {i : Int} (i0 : 0 ≤ i) (i1 : i < 22) : okW (wd i) := by
  have := wd_ok ⟨i.toNat, by omega⟩
  simp only [Int.toNat_of_nonneg i0] at this
  exact this
theorem wd_nd : ∀ i j : Fin 22, wd ((i : Nat) : Int) = wd ((j : Nat) : Int) → i = j := by decide +kernel
/-- the kind of a word -/
def kdW (l : List Int) (k : Int) : Prop := (0 ≤ k ∧ k < 22 ∧ wd k = l) ∨ (k = 22 ∧ ∀ i, 0 ≤ i → i < 22 → wd i ≠ l)
/-- the class knows its words -/
def wkI (m : jM) : Prop := ∀ i, 0 ≤ i → i < 22 → m 7 i = vB 32 (wd i)
/-- letters from p on, the last one first -/
def ltR (B : Int → Int) (p : Int) : Nat → List Int
  | 0 => []
  | n + 1 => (B (p + n) - 96) :: ltR B p n
theorem ltR_ok {B : Int → Int} {p : Int} : ∀ {n : Nat}, (∀ q, p ≤ q → q < p + n → isLe (B q)) → (∀ c ∈ ltR B p n, 1 ≤ c ∧ c ≤ 26) ∧ (ltR B p n).length = n := by
  intro n
  induction n with
  | zero => intro _; exact ⟨fun c hc => (by cases hc), rfl⟩
  | succ n ih =>
    intro h
    have h1 := h (p + n) (by omega) (by omega)
    have h2 := ih (fun q a b => h q a (by omega))
    refine ⟨fun c hc => ?_, by simp only [ltR, List.length_cons]; rw [h2.2]⟩
    simp only [ltR, List.mem_cons] at hc
    rcases hc with rfl | hc
    · unfold isLe at h1; omega
    · exact h2.1 c hc
/-- an INT's digits from p on -/
def dgR (B : Int → Int) (p : Int) : Nat → Int
  | 0 => 0
  | n + 1 => dgR B p n * 10 + B (p + n) - 48
theorem dgR_in {B : Int → Int} {p : Int} : ∀ {n : Nat}, (∀ q, p ≤ q → q < p + n → isDi (B q)) → 0 ≤ dgR B p n ∧ dgR B p n < 10 ^ n := by
  intro n
  induction n with
  | zero => intro _; exact ⟨Int.le_refl _, by simp [dgR]⟩
  | succ n ih =>
    intro h
    have h1 := h (p + n) (by omega) (by omega)
    have h2 := ih (fun q a b => h q a (by omega))
    unfold isDi at h1
    simp only [dgR]
    rw [Int.pow_succ]
    omega
/-- a sign's kind -/
def ksg (a b : Int) : Int := if a = 33 then (if b = 61 then 29 else 35) else if a = 40 then 32 else if a = 41 then 33 else if a = 42 then 27 else if a = 43 then 25 else if a = 45 then 26 else if a = 59 then 24 else if a = 60 then (if b = 61 then 31 else 30) else if a = 61 then (if b = 61 then 28 else 35) else 35
theorem ksg_in (a b : Int) : 24 ≤ ksg a b ∧ ksg a b ≤ 35 ∧ ksg a b ≠ 34 := by
  unfold ksg
  (repeat' split) <;> decide
/-- the token at p: kind, value, end -/
def tkC (B : Int → Int) (p kd vl e : Int) : Prop :=
  (B p = -1 ∧ kd = 34 ∧ e = p) ∨
  (isLe (B p) ∧ isRun B isLe p e ∧ ((8 < e - p ∧ kd = 35) ∨ (e - p ≤ 8 ∧ vl = vB 32 (ltR B p (e - p).toNat) ∧ kdW (ltR B p (e - p).toNat) kd))) ∨
  (isDi (B p) ∧ isRun B isDi p e ∧ ((4 < e - p ∧ kd = 35) ∨ (e - p ≤ 4 ∧ kd = 23 ∧ vl = dgR B p (e - p).toNat))) ∨
  (B p ≠ -1 ∧ ¬ isLe (B p) ∧ ¬ isDi (B p) ∧ kd = ksg (B p) (B (p + 1)) ∧ e = (if kd = 28 ∨ kd = 29 ∨ kd = 31 then p + 2 else p + 1))
